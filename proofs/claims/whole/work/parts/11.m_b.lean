-- printed by gen2.py: methods as functions over stores, tied to their bytecode
abbrev rmX5_drop : Room := { frames := 1, cells := 0, slots := 0, locals := 21 }
noncomputable def fX5_drop (a1 : Int32) (σ : ST) : Option (Int32 × ST) :=
  cb (fX5_isDrive a1 σ) (fun r1 σ2 => if r1 = 0 then (some ((-1), σ2)) else (if ib a1 6 = true then if (σ2.1 13 a1.toNatClampNeg) = 0 then (some ((-3), σ2)) else (if ib a1 6 = true then if ib a1 6 = true then bindv (stI σ2 13 a1.toNatClampNeg ((σ2.1 13 a1.toNatClampNeg) - 1)) (fun σ3 => if ib a1 6 = true then some ((σ3.1 13 a1.toNatClampNeg), σ3) else none) else none else none) else none))
set_option maxRecDepth 10000 in
theorem xX5_drop (a1 : Int32) (σ : ST) : MS wlM yX5_drop cX5_drop 2 (some .int) rmX5_drop emI [.inr (some 0), .inl a1] σ (fX5_drop a1 σ) := by
  refine MS.of (by decide +kernel) (Nat.le_of_ble_eq_true rfl) ?_
  show AW wlM yX5_drop cX5_drop 2 (some .int) rmX5_drop emI (fX5_drop a1 σ) 0 [some (.inr (some 0)), some (.inl a1)] [] σ
  unfold fX5_drop
  refine aw_aload_n (pc := 0) dX5_drop_0 rfl rfl ?_
  refine aw_iload_n (pc := 1) dX5_drop_1 rfl rfl ?_
  refine aw_cVI (pc := 2) (st := []) (xX5_isDrive a1 σ) (atM0 _) rfl ckX5_144 ⟨rfl, rfl, by decide, by decide⟩ (Nat.le_of_ble_eq_true rfl) dX5_drop_2 rfl (fun r1 σ2 => ?_)
  refine aw_if_ne (pc := 5) (tgt := 10) dX5_drop_5 (by decide) (fun _ => ?_) (fun _ => ?_)
  · refine aw_iconst (pc := 8) (v := (-1)) dX5_drop_8 (by decide) ?_
    exact aw_ret_i (pc := 9) rfl rfl rfl dX5_drop_9
  refine aw_aload_n (pc := 10) dX5_drop_10 rfl rfl ?_
  refine aw_get (pc := 11) (v := .inr (some 13)) foX5_47 (atM0 _) rfl dX5_drop_11 ?_
  refine aw_iload_n (pc := 14) dX5_drop_14 rfl rfl ?_
  refine aw_iald' (pc := 15) (atM13 _) dX5_drop_15 ?_
  refine aw_if_ne (pc := 16) (tgt := 22) dX5_drop_16 (by decide) (fun _ => ?_) (fun _ => ?_)
  · refine aw_bipush (pc := 19) (v := (-3)) dX5_drop_19 (by decide) ?_
    exact aw_ret_i (pc := 21) rfl rfl rfl dX5_drop_21
  refine aw_aload_n (pc := 22) dX5_drop_22 rfl rfl ?_
  refine aw_get (pc := 23) (v := .inr (some 13)) foX5_47 (atM0 _) rfl dX5_drop_23 ?_
  refine aw_iload_n (pc := 26) dX5_drop_26 rfl rfl ?_
  refine aw_dup2 (pc := 27) dX5_drop_27 ?_
  refine aw_iald' (pc := 28) (atM13 _) dX5_drop_28 ?_
  refine aw_iconst (pc := 29) (v := 1) dX5_drop_29 (by decide) ?_
  refine aw_isub (pc := 30) dX5_drop_30 ?_
  refine aw_iastB (pc := 31) (atM13 _) (stM13 _ _ _) dX5_drop_31 (fun σ3 => ?_)
  refine aw_aload_n (pc := 32) dX5_drop_32 rfl rfl ?_
  refine aw_get (pc := 33) (v := .inr (some 13)) foX5_47 (atM0 _) rfl dX5_drop_33 ?_
  refine aw_iload_n (pc := 36) dX5_drop_36 rfl rfl ?_
  refine aw_iald' (pc := 37) (atM13 _) dX5_drop_37 ?_
  exact aw_ret_i (pc := 38) rfl rfl rfl dX5_drop_38
abbrev rmX5_prices : Room := { frames := 1, cells := 0, slots := 0, locals := 22 }
noncomputable def fX5_prices (a1 : Int32) (a2 : Int32) (σ : ST) : Option (Int32 × ST) :=
  cb (fX5_within a1 1 100 σ) (fun r1 σ2 => if r1 = 0 then (some ((-1), σ2)) else (cb (fX5_within a2 1 9999 σ2) (fun r3 σ4 => if r3 = 0 then (some ((-1), σ4)) else (bindv (stI σ4 0 16 a1) (fun σ5 => bindv (stI σ5 0 17 a2) (fun σ6 => some (1, σ6)))))))
set_option maxRecDepth 10000 in
theorem xX5_prices (a1 : Int32) (a2 : Int32) (σ : ST) : MS wlM yX5_prices cX5_prices 3 (some .int) rmX5_prices emI [.inr (some 0), .inl a1, .inl a2] σ (fX5_prices a1 a2 σ) := by
  refine MS.of (by decide +kernel) (Nat.le_of_ble_eq_true rfl) ?_
  show AW wlM yX5_prices cX5_prices 3 (some .int) rmX5_prices emI (fX5_prices a1 a2 σ) 0 [some (.inr (some 0)), some (.inl a1), some (.inl a2)] [] σ
  unfold fX5_prices
  refine aw_iload_n (pc := 0) dX5_prices_0 rfl rfl ?_
  refine aw_iconst (pc := 1) (v := 1) dX5_prices_1 (by decide) ?_
  refine aw_bipush (pc := 2) (v := 100) dX5_prices_2 (by decide) ?_
  refine aw_cSI (pc := 4) (st := []) (xX5_within a1 1 100 σ) ckX5_87 ⟨rfl, rfl, by decide, by decide⟩ (Nat.le_of_ble_eq_true rfl) dX5_prices_4 rfl (fun r1 σ2 => ?_)
  refine aw_if_eq (pc := 7) (tgt := 21) dX5_prices_7 (by decide) (fun _ => ?_) (fun _ => ?_)
  · refine aw_iconst (pc := 21) (v := (-1)) dX5_prices_21 (by decide) ?_
    exact aw_ret_i (pc := 22) rfl rfl rfl dX5_prices_22
  refine aw_iload_n (pc := 10) dX5_prices_10 rfl rfl ?_
  refine aw_iconst (pc := 11) (v := 1) dX5_prices_11 (by decide) ?_
  refine aw_sipush (pc := 12) (v := 9999) dX5_prices_12 (by decide) ?_
  refine aw_cSI (pc := 15) (st := []) (xX5_within a2 1 9999 σ2) ckX5_87 ⟨rfl, rfl, by decide, by decide⟩ (Nat.le_of_ble_eq_true rfl) dX5_prices_15 rfl (fun r3 σ4 => ?_)
  refine aw_if_ne (pc := 18) (tgt := 23) dX5_prices_18 (by decide) (fun _ => ?_) (fun _ => ?_)
  · refine aw_iconst (pc := 21) (v := (-1)) dX5_prices_21 (by decide) ?_
    exact aw_ret_i (pc := 22) rfl rfl rfl dX5_prices_22
  refine aw_aload_n (pc := 23) dX5_prices_23 rfl rfl ?_
  refine aw_iload_n (pc := 24) dX5_prices_24 rfl rfl ?_
  refine aw_putI (pc := 25) fwX5_50 (atM0 _) (Nat.le_of_ble_eq_true rfl) (stM0_16 _ _) dX5_prices_25 (fun σ5 => ?_)
  refine aw_aload_n (pc := 28) dX5_prices_28 rfl rfl ?_
  refine aw_iload_n (pc := 29) dX5_prices_29 rfl rfl ?_
  refine aw_putI (pc := 30) fwX5_54 (atM0 _) (Nat.le_of_ble_eq_true rfl) (stM0_17 _ _) dX5_prices_30 (fun σ6 => ?_)
  refine aw_iconst (pc := 33) (v := 1) dX5_prices_33 (by decide) ?_
  exact aw_ret_i (pc := 34) rfl rfl rfl dX5_prices_34
abbrev rmX5_offOf : Room := { frames := 0, cells := 0, slots := 0, locals := 0 }
noncomputable def fX5_offOf (a1 : Int32) (a2 : Int32) (a3 : Int32) (σ : ST) : Option (Int32 × ST) :=
  bindv (a3 / 5) (fun v1 => bindv (a3 - a3 / 5 * 5) (fun v2 => if ib v1 30 = true then if ib (σ.1 3 v1.toNatClampNeg) 16 = true then if ib v1 30 = true then if ib (σ.1 4 v1.toNatClampNeg) 16 = true then if ib v1 30 = true then if ib (σ.1 3 v1.toNatClampNeg) 16 = true then if ib ((20 * a1) + a2) 120 = true then bindv (((4 * (σ.1 1 (σ.1 3 v1.toNatClampNeg).toNatClampNeg)) + (v2 * ((σ.1 1 (σ.1 4 v1.toNatClampNeg).toNatClampNeg) - (σ.1 1 (σ.1 3 v1.toNatClampNeg).toNatClampNeg)))) - (4 * (σ.1 9 ((20 * a1) + a2).toNatClampNeg))) (fun v3 => if ib v1 30 = true then if ib (σ.1 3 v1.toNatClampNeg) 16 = true then if ib v1 30 = true then if ib (σ.1 4 v1.toNatClampNeg) 16 = true then if ib v1 30 = true then if ib (σ.1 3 v1.toNatClampNeg) 16 = true then if ib ((20 * a1) + a2) 120 = true then bindv (((4 * (σ.1 2 (σ.1 3 v1.toNatClampNeg).toNatClampNeg)) + (v2 * ((σ.1 2 (σ.1 4 v1.toNatClampNeg).toNatClampNeg) - (σ.1 2 (σ.1 3 v1.toNatClampNeg).toNatClampNeg)))) - (4 * (σ.1 10 ((20 * a1) + a2).toNatClampNeg))) (fun v4 => some ((((v3 * v3) + (v4 * v4)) / 16), σ)) else none else none else none else none else none else none else none) else none else none else none else none else none else none else none))
set_option maxRecDepth 10000 in
theorem xX5_offOf (a1 : Int32) (a2 : Int32) (a3 : Int32) (σ : ST) : MS wlM yX5_offOf cX5_offOf 8 (some .int) rmX5_offOf emI [.inr (some 0), .inl a1, .inl a2, .inl a3] σ (fX5_offOf a1 a2 a3 σ) := by
  refine MS.of (by decide +kernel) (Nat.le_of_ble_eq_true rfl) ?_
  show AW wlM yX5_offOf cX5_offOf 8 (some .int) rmX5_offOf emI (fX5_offOf a1 a2 a3 σ) 0 [some (.inr (some 0)), some (.inl a1), some (.inl a2), some (.inl a3), none, none, none, none] [] σ
  unfold fX5_offOf
  refine aw_iload_n (pc := 0) dX5_offOf_0 rfl rfl ?_
  refine aw_iconst (pc := 1) (v := 5) dX5_offOf_1 (by decide) ?_
  refine aw_idiv (pc := 2) dX5_offOf_2 (by decide) ?_
  refine aw_stB (pc := 3) (Lf := fun v1 => [some (.inr (some 0)), some (.inl a1), some (.inl a2), some (.inl a3), some (.inl v1), none, none, none]) dX5_offOf_3 (by decide) (fun _ => rfl) (fun v1 => ?_)
  refine aw_iload_n (pc := 5) dX5_offOf_5 rfl rfl ?_
  refine aw_iconst (pc := 6) (v := 5) dX5_offOf_6 (by decide) ?_
  refine aw_irem (pc := 7) dX5_offOf_7 (by decide) ?_
  refine aw_stB (pc := 8) (Lf := fun v2 => [some (.inr (some 0)), some (.inl a1), some (.inl a2), some (.inl a3), some (.inl v1), some (.inl v2), none, none]) dX5_offOf_8 (by decide) (fun _ => rfl) (fun v2 => ?_)
  refine aw_iconst (pc := 10) (v := 4) dX5_offOf_10 (by decide) ?_
  refine aw_aload_n (pc := 11) dX5_offOf_11 rfl rfl ?_
  refine aw_get (pc := 12) (v := .inr (some 1)) foX5_9 (atM0 _) rfl dX5_offOf_12 ?_
  refine aw_aload_n (pc := 15) dX5_offOf_15 rfl rfl ?_
  refine aw_get (pc := 16) (v := .inr (some 3)) foX5_16 (atM0 _) rfl dX5_offOf_16 ?_
  refine aw_iload (pc := 19) dX5_offOf_19 rfl ?_
  refine aw_iald' (pc := 21) (atM3 _) dX5_offOf_21 ?_
  refine aw_iald' (pc := 22) (atM1 _) dX5_offOf_22 ?_
  refine aw_imul (pc := 23) dX5_offOf_23 ?_
  refine aw_iload (pc := 24) dX5_offOf_24 rfl ?_
  refine aw_aload_n (pc := 26) dX5_offOf_26 rfl rfl ?_
  refine aw_get (pc := 27) (v := .inr (some 1)) foX5_9 (atM0 _) rfl dX5_offOf_27 ?_
  refine aw_aload_n (pc := 30) dX5_offOf_30 rfl rfl ?_
  refine aw_get (pc := 31) (v := .inr (some 4)) foX5_19 (atM0 _) rfl dX5_offOf_31 ?_
  refine aw_iload (pc := 34) dX5_offOf_34 rfl ?_
  refine aw_iald' (pc := 36) (atM4 _) dX5_offOf_36 ?_
  refine aw_iald' (pc := 37) (atM1 _) dX5_offOf_37 ?_
  refine aw_aload_n (pc := 38) dX5_offOf_38 rfl rfl ?_
  refine aw_get (pc := 39) (v := .inr (some 1)) foX5_9 (atM0 _) rfl dX5_offOf_39 ?_
  refine aw_aload_n (pc := 42) dX5_offOf_42 rfl rfl ?_
  refine aw_get (pc := 43) (v := .inr (some 3)) foX5_16 (atM0 _) rfl dX5_offOf_43 ?_
  refine aw_iload (pc := 46) dX5_offOf_46 rfl ?_
  refine aw_iald' (pc := 48) (atM3 _) dX5_offOf_48 ?_
  refine aw_iald' (pc := 49) (atM1 _) dX5_offOf_49 ?_
  refine aw_isub (pc := 50) dX5_offOf_50 ?_
  refine aw_imul (pc := 51) dX5_offOf_51 ?_
  refine aw_iadd (pc := 52) dX5_offOf_52 ?_
  refine aw_iconst (pc := 53) (v := 4) dX5_offOf_53 (by decide) ?_
  refine aw_aload_n (pc := 54) dX5_offOf_54 rfl rfl ?_
  refine aw_get (pc := 55) (v := .inr (some 9)) foX5_35 (atM0 _) rfl dX5_offOf_55 ?_
  refine aw_bipush (pc := 58) (v := 20) dX5_offOf_58 (by decide) ?_
  refine aw_iload_n (pc := 60) dX5_offOf_60 rfl rfl ?_
  refine aw_imul (pc := 61) dX5_offOf_61 ?_
  refine aw_iload_n (pc := 62) dX5_offOf_62 rfl rfl ?_
  refine aw_iadd (pc := 63) dX5_offOf_63 ?_
  refine aw_iald' (pc := 64) (atM9 _) dX5_offOf_64 ?_
  refine aw_imul (pc := 65) dX5_offOf_65 ?_
  refine aw_isub (pc := 66) dX5_offOf_66 ?_
  refine aw_stB (pc := 67) (Lf := fun v3 => [some (.inr (some 0)), some (.inl a1), some (.inl a2), some (.inl a3), some (.inl v1), some (.inl v2), some (.inl v3), none]) dX5_offOf_67 (by decide) (fun _ => rfl) (fun v3 => ?_)
  refine aw_iconst (pc := 69) (v := 4) dX5_offOf_69 (by decide) ?_
  refine aw_aload_n (pc := 70) dX5_offOf_70 rfl rfl ?_
  refine aw_get (pc := 71) (v := .inr (some 2)) foX5_13 (atM0 _) rfl dX5_offOf_71 ?_
  refine aw_aload_n (pc := 74) dX5_offOf_74 rfl rfl ?_
  refine aw_get (pc := 75) (v := .inr (some 3)) foX5_16 (atM0 _) rfl dX5_offOf_75 ?_
  refine aw_iload (pc := 78) dX5_offOf_78 rfl ?_
  refine aw_iald' (pc := 80) (atM3 _) dX5_offOf_80 ?_
  refine aw_iald' (pc := 81) (atM2 _) dX5_offOf_81 ?_
  refine aw_imul (pc := 82) dX5_offOf_82 ?_
  refine aw_iload (pc := 83) dX5_offOf_83 rfl ?_
  refine aw_aload_n (pc := 85) dX5_offOf_85 rfl rfl ?_
  refine aw_get (pc := 86) (v := .inr (some 2)) foX5_13 (atM0 _) rfl dX5_offOf_86 ?_
  refine aw_aload_n (pc := 89) dX5_offOf_89 rfl rfl ?_
  refine aw_get (pc := 90) (v := .inr (some 4)) foX5_19 (atM0 _) rfl dX5_offOf_90 ?_
  refine aw_iload (pc := 93) dX5_offOf_93 rfl ?_
  refine aw_iald' (pc := 95) (atM4 _) dX5_offOf_95 ?_
  refine aw_iald' (pc := 96) (atM2 _) dX5_offOf_96 ?_
  refine aw_aload_n (pc := 97) dX5_offOf_97 rfl rfl ?_
  refine aw_get (pc := 98) (v := .inr (some 2)) foX5_13 (atM0 _) rfl dX5_offOf_98 ?_
  refine aw_aload_n (pc := 101) dX5_offOf_101 rfl rfl ?_
  refine aw_get (pc := 102) (v := .inr (some 3)) foX5_16 (atM0 _) rfl dX5_offOf_102 ?_
  refine aw_iload (pc := 105) dX5_offOf_105 rfl ?_
  refine aw_iald' (pc := 107) (atM3 _) dX5_offOf_107 ?_
  refine aw_iald' (pc := 108) (atM2 _) dX5_offOf_108 ?_
  refine aw_isub (pc := 109) dX5_offOf_109 ?_
  refine aw_imul (pc := 110) dX5_offOf_110 ?_
  refine aw_iadd (pc := 111) dX5_offOf_111 ?_
  refine aw_iconst (pc := 112) (v := 4) dX5_offOf_112 (by decide) ?_
  refine aw_aload_n (pc := 113) dX5_offOf_113 rfl rfl ?_
  refine aw_get (pc := 114) (v := .inr (some 10)) foX5_38 (atM0 _) rfl dX5_offOf_114 ?_
  refine aw_bipush (pc := 117) (v := 20) dX5_offOf_117 (by decide) ?_
  refine aw_iload_n (pc := 119) dX5_offOf_119 rfl rfl ?_
  refine aw_imul (pc := 120) dX5_offOf_120 ?_
  refine aw_iload_n (pc := 121) dX5_offOf_121 rfl rfl ?_
  refine aw_iadd (pc := 122) dX5_offOf_122 ?_
  refine aw_iald' (pc := 123) (atM10 _) dX5_offOf_123 ?_
  refine aw_imul (pc := 124) dX5_offOf_124 ?_
  refine aw_isub (pc := 125) dX5_offOf_125 ?_
  refine aw_stB (pc := 126) (Lf := fun v4 => [some (.inr (some 0)), some (.inl a1), some (.inl a2), some (.inl a3), some (.inl v1), some (.inl v2), some (.inl v3), some (.inl v4)]) dX5_offOf_126 (by decide) (fun _ => rfl) (fun v4 => ?_)
  refine aw_iload (pc := 128) dX5_offOf_128 rfl ?_
  refine aw_iload (pc := 130) dX5_offOf_130 rfl ?_
  refine aw_imul (pc := 132) dX5_offOf_132 ?_
  refine aw_iload (pc := 133) dX5_offOf_133 rfl ?_
  refine aw_iload (pc := 135) dX5_offOf_135 rfl ?_
  refine aw_imul (pc := 137) dX5_offOf_137 ?_
  refine aw_iadd (pc := 138) dX5_offOf_138 ?_
  refine aw_bipush (pc := 139) (v := 16) dX5_offOf_139 (by decide) ?_
  refine aw_idiv (pc := 141) dX5_offOf_141 (by decide) ?_
  exact aw_ret_i (pc := 142) rfl rfl rfl dX5_offOf_142
abbrev rmX5_findSpots : Room := { frames := 1, cells := 0, slots := 0, locals := 27 }
noncomputable def fX5_findSpots_J193 (k7 : Int32 → Int32 → ST → Option (Unit × ST)) (k39 : Int32 → Int32 → Int32 → Int32 → ST → Option (Unit × ST)) (l1 : Int32) (l2 : Int32) (l3 : Int32) (l4 : Int32) (σ : ST) : Option (Unit × ST) :=
  bindv (l4 + 1) (fun v7 => k39 l1 l2 l3 v7 σ)
set_option maxRecDepth 10000 in
theorem xX5_findSpots_J193 (k7 : Int32 → Int32 → ST → Option (Unit × ST)) (k39 : Int32 → Int32 → Int32 → Int32 → ST → Option (Unit × ST)) (hk7 : ∀ (l1 : Int32) (l2 : Int32) (σ : ST), AW wlM yX5_findSpots cX5_findSpots 9 none rmX5_findSpots emV (k7 l1 l2 σ) 7 [some (.inr (some 0)), some (.inl l1), some (.inl l2), none, none, none, none, none, none] [] σ) (hk39 : ∀ (l1 : Int32) (l2 : Int32) (l3 : Int32) (l4 : Int32) (σ : ST), AW wlM yX5_findSpots cX5_findSpots 9 none rmX5_findSpots emV (k39 l1 l2 l3 l4 σ) 39 [some (.inr (some 0)), some (.inl l1), some (.inl l2), some (.inl l3), some (.inl l4), none, none, none, none] [] σ) (l1 : Int32) (l2 : Int32) (l3 : Int32) (l4 : Int32) (σ : ST) : AW wlM yX5_findSpots cX5_findSpots 9 none rmX5_findSpots emV (fX5_findSpots_J193 k7 k39 l1 l2 l3 l4 σ) 193 [some (.inr (some 0)), some (.inl l1), some (.inl l2), some (.inl l3), some (.inl l4), none, none, none, none] [] σ := by
  unfold fX5_findSpots_J193
  refine aw_iincB (pc := 193) (v := 1) (Lf := fun v7 => [some (.inr (some 0)), some (.inl l1), some (.inl l2), some (.inl l3), some (.inl v7), none, none, none, none]) dX5_findSpots_193 rfl (by decide) (by decide) (fun _ => rfl) (fun v7 => ?_)
  refine aw_goto (pc := 196) (tgt := 39) dX5_findSpots_196 (by decide) ?_
  exact aw_wk (wk_same (wk_same (wk_same (wk_same (wk_same (wk_none (wk_none (wk_none (wk_none wk_nil))))))))) (hk39 l1 l2 l3 v7 σ)
noncomputable def fX5_findSpots_J149 (k7 : Int32 → Int32 → ST → Option (Unit × ST)) (k39 : Int32 → Int32 → Int32 → Int32 → ST → Option (Unit × ST)) (k87 : Int32 → Int32 → Int32 → Int32 → Int32 → Int32 → Int32 → ST → Option (Unit × ST)) (l1 : Int32) (l2 : Int32) (l3 : Int32) (l4 : Int32) (l5 : Int32) (l7 : Int32) (s0 : Int32) (s1 : Int32) (σ : ST) : Option (Unit × ST) :=
  bindv (s1 + s0) (fun v12 => bindv (l7 + 1) (fun v13 => k87 l1 l2 l3 l4 l5 v12 v13 σ))
set_option maxRecDepth 10000 in
theorem xX5_findSpots_J149 (k7 : Int32 → Int32 → ST → Option (Unit × ST)) (k39 : Int32 → Int32 → Int32 → Int32 → ST → Option (Unit × ST)) (k87 : Int32 → Int32 → Int32 → Int32 → Int32 → Int32 → Int32 → ST → Option (Unit × ST)) (hk7 : ∀ (l1 : Int32) (l2 : Int32) (σ : ST), AW wlM yX5_findSpots cX5_findSpots 9 none rmX5_findSpots emV (k7 l1 l2 σ) 7 [some (.inr (some 0)), some (.inl l1), some (.inl l2), none, none, none, none, none, none] [] σ) (hk39 : ∀ (l1 : Int32) (l2 : Int32) (l3 : Int32) (l4 : Int32) (σ : ST), AW wlM yX5_findSpots cX5_findSpots 9 none rmX5_findSpots emV (k39 l1 l2 l3 l4 σ) 39 [some (.inr (some 0)), some (.inl l1), some (.inl l2), some (.inl l3), some (.inl l4), none, none, none, none] [] σ) (hk87 : ∀ (l1 : Int32) (l2 : Int32) (l3 : Int32) (l4 : Int32) (l5 : Int32) (l6 : Int32) (l7 : Int32) (σ : ST), AW wlM yX5_findSpots cX5_findSpots 9 none rmX5_findSpots emV (k87 l1 l2 l3 l4 l5 l6 l7 σ) 87 [some (.inr (some 0)), some (.inl l1), some (.inl l2), some (.inl l3), some (.inl l4), some (.inl l5), some (.inl l6), some (.inl l7), none] [] σ) (l1 : Int32) (l2 : Int32) (l3 : Int32) (l4 : Int32) (l5 : Int32) (l7 : Int32) (s0 : Int32) (s1 : Int32) (σ : ST) : AW wlM yX5_findSpots cX5_findSpots 9 none rmX5_findSpots emV (fX5_findSpots_J149 k7 k39 k87 l1 l2 l3 l4 l5 l7 s0 s1 σ) 149 [some (.inr (some 0)), some (.inl l1), some (.inl l2), some (.inl l3), some (.inl l4), some (.inl l5), none, some (.inl l7), none] [.inl s0, .inl s1] σ := by
  unfold fX5_findSpots_J149
  refine aw_iadd (pc := 149) dX5_findSpots_149 ?_
  refine aw_stB (pc := 150) (Lf := fun v12 => [some (.inr (some 0)), some (.inl l1), some (.inl l2), some (.inl l3), some (.inl l4), some (.inl l5), some (.inl v12), some (.inl l7), none]) dX5_findSpots_150 (by decide) (fun _ => rfl) (fun v12 => ?_)
  refine aw_iincB (pc := 152) (v := 1) (Lf := fun v13 => [some (.inr (some 0)), some (.inl l1), some (.inl l2), some (.inl l3), some (.inl l4), some (.inl l5), some (.inl v12), some (.inl v13), none]) dX5_findSpots_152 rfl (by decide) (by decide) (fun _ => rfl) (fun v13 => ?_)
  refine aw_goto (pc := 155) (tgt := 87) dX5_findSpots_155 (by decide) ?_
  exact aw_wk (wk_same (wk_same (wk_same (wk_same (wk_same (wk_same (wk_same (wk_same (wk_none wk_nil))))))))) (hk87 l1 l2 l3 l4 l5 v12 v13 σ)
noncomputable def fX5_findSpots_J148 (k7 : Int32 → Int32 → ST → Option (Unit × ST)) (k39 : Int32 → Int32 → Int32 → Int32 → ST → Option (Unit × ST)) (k87 : Int32 → Int32 → Int32 → Int32 → Int32 → Int32 → Int32 → ST → Option (Unit × ST)) (l1 : Int32) (l2 : Int32) (l3 : Int32) (l4 : Int32) (l5 : Int32) (l7 : Int32) (s0 : Int32) (σ : ST) : Option (Unit × ST) :=
  fX5_findSpots_J149 k7 k39 k87 l1 l2 l3 l4 l5 l7 0 s0 σ
set_option maxRecDepth 10000 in
theorem xX5_findSpots_J148 (k7 : Int32 → Int32 → ST → Option (Unit × ST)) (k39 : Int32 → Int32 → Int32 → Int32 → ST → Option (Unit × ST)) (k87 : Int32 → Int32 → Int32 → Int32 → Int32 → Int32 → Int32 → ST → Option (Unit × ST)) (hk7 : ∀ (l1 : Int32) (l2 : Int32) (σ : ST), AW wlM yX5_findSpots cX5_findSpots 9 none rmX5_findSpots emV (k7 l1 l2 σ) 7 [some (.inr (some 0)), some (.inl l1), some (.inl l2), none, none, none, none, none, none] [] σ) (hk39 : ∀ (l1 : Int32) (l2 : Int32) (l3 : Int32) (l4 : Int32) (σ : ST), AW wlM yX5_findSpots cX5_findSpots 9 none rmX5_findSpots emV (k39 l1 l2 l3 l4 σ) 39 [some (.inr (some 0)), some (.inl l1), some (.inl l2), some (.inl l3), some (.inl l4), none, none, none, none] [] σ) (hk87 : ∀ (l1 : Int32) (l2 : Int32) (l3 : Int32) (l4 : Int32) (l5 : Int32) (l6 : Int32) (l7 : Int32) (σ : ST), AW wlM yX5_findSpots cX5_findSpots 9 none rmX5_findSpots emV (k87 l1 l2 l3 l4 l5 l6 l7 σ) 87 [some (.inr (some 0)), some (.inl l1), some (.inl l2), some (.inl l3), some (.inl l4), some (.inl l5), some (.inl l6), some (.inl l7), none] [] σ) (l1 : Int32) (l2 : Int32) (l3 : Int32) (l4 : Int32) (l5 : Int32) (l7 : Int32) (s0 : Int32) (σ : ST) : AW wlM yX5_findSpots cX5_findSpots 9 none rmX5_findSpots emV (fX5_findSpots_J148 k7 k39 k87 l1 l2 l3 l4 l5 l7 s0 σ) 148 [some (.inr (some 0)), some (.inl l1), some (.inl l2), some (.inl l3), some (.inl l4), some (.inl l5), none, some (.inl l7), none] [.inl s0] σ := by
  unfold fX5_findSpots_J148
  refine aw_iconst (pc := 148) (v := 0) dX5_findSpots_148 (by decide) ?_
  exact aw_wk (wk_same (wk_same (wk_same (wk_same (wk_same (wk_same (wk_none (wk_same (wk_none wk_nil))))))))) (xX5_findSpots_J149 k7 k39 k87 hk7 hk39 hk87 l1 l2 l3 l4 l5 l7 0 s0 σ)
noncomputable def fX5_findSpots_J144 (k7 : Int32 → Int32 → ST → Option (Unit × ST)) (k39 : Int32 → Int32 → Int32 → Int32 → ST → Option (Unit × ST)) (k87 : Int32 → Int32 → Int32 → Int32 → Int32 → Int32 → Int32 → ST → Option (Unit × ST)) (l1 : Int32) (l2 : Int32) (l3 : Int32) (l4 : Int32) (l5 : Int32) (l7 : Int32) (s0 : Int32) (σ : ST) : Option (Unit × ST) :=
  fX5_findSpots_J149 k7 k39 k87 l1 l2 l3 l4 l5 l7 1 s0 σ
set_option maxRecDepth 10000 in
theorem xX5_findSpots_J144 (k7 : Int32 → Int32 → ST → Option (Unit × ST)) (k39 : Int32 → Int32 → Int32 → Int32 → ST → Option (Unit × ST)) (k87 : Int32 → Int32 → Int32 → Int32 → Int32 → Int32 → Int32 → ST → Option (Unit × ST)) (hk7 : ∀ (l1 : Int32) (l2 : Int32) (σ : ST), AW wlM yX5_findSpots cX5_findSpots 9 none rmX5_findSpots emV (k7 l1 l2 σ) 7 [some (.inr (some 0)), some (.inl l1), some (.inl l2), none, none, none, none, none, none] [] σ) (hk39 : ∀ (l1 : Int32) (l2 : Int32) (l3 : Int32) (l4 : Int32) (σ : ST), AW wlM yX5_findSpots cX5_findSpots 9 none rmX5_findSpots emV (k39 l1 l2 l3 l4 σ) 39 [some (.inr (some 0)), some (.inl l1), some (.inl l2), some (.inl l3), some (.inl l4), none, none, none, none] [] σ) (hk87 : ∀ (l1 : Int32) (l2 : Int32) (l3 : Int32) (l4 : Int32) (l5 : Int32) (l6 : Int32) (l7 : Int32) (σ : ST), AW wlM yX5_findSpots cX5_findSpots 9 none rmX5_findSpots emV (k87 l1 l2 l3 l4 l5 l6 l7 σ) 87 [some (.inr (some 0)), some (.inl l1), some (.inl l2), some (.inl l3), some (.inl l4), some (.inl l5), some (.inl l6), some (.inl l7), none] [] σ) (l1 : Int32) (l2 : Int32) (l3 : Int32) (l4 : Int32) (l5 : Int32) (l7 : Int32) (s0 : Int32) (σ : ST) : AW wlM yX5_findSpots cX5_findSpots 9 none rmX5_findSpots emV (fX5_findSpots_J144 k7 k39 k87 l1 l2 l3 l4 l5 l7 s0 σ) 144 [some (.inr (some 0)), some (.inl l1), some (.inl l2), some (.inl l3), some (.inl l4), some (.inl l5), none, some (.inl l7), none] [.inl s0] σ := by
  unfold fX5_findSpots_J144
  refine aw_iconst (pc := 144) (v := 1) dX5_findSpots_144 (by decide) ?_
  refine aw_goto (pc := 145) (tgt := 149) dX5_findSpots_145 (by decide) ?_
  exact aw_wk (wk_same (wk_same (wk_same (wk_same (wk_same (wk_same (wk_none (wk_same (wk_none wk_nil))))))))) (xX5_findSpots_J149 k7 k39 k87 hk7 hk39 hk87 l1 l2 l3 l4 l5 l7 1 s0 σ)
noncomputable def fX5_findSpots_B87 (k7 : Int32 → Int32 → ST → Option (Unit × ST)) (k39 : Int32 → Int32 → Int32 → Int32 → ST → Option (Unit × ST)) (k87 : Int32 → Int32 → Int32 → Int32 → Int32 → Int32 → Int32 → ST → Option (Unit × ST)) (l1 : Int32) (l2 : Int32) (l3 : Int32) (l4 : Int32) (l5 : Int32) (l6 : Int32) (l7 : Int32) (σ : ST) : Option (Unit × ST) :=
  if (5 * (σ.1 0 8)) ≤ l7 then (if 10 ≤ l6 then (fX5_findSpots_J193 k7 k39 l1 l2 l3 l4 σ) else (if ib l2 20 = true then if ib ((10 * l2) + (σ.1 20 l2.toNatClampNeg)) 200 = true then bindv (stI σ 19 ((10 * l2) + (σ.1 20 l2.toNatClampNeg)).toNatClampNeg l4) (fun σ8 => if ib l2 20 = true then if ib l2 20 = true then bindv (stI σ8 20 l2.toNatClampNeg ((σ8.1 20 l2.toNatClampNeg) + 1)) (fun σ9 => fX5_findSpots_J193 k7 k39 l1 l2 l3 l4 σ9) else none else none) else none else none)) else (cb (fX5_offOf l1 l2 l7 σ) (fun r10 σ11 => if ib (l7 / 5) 30 = true then if (σ11.1 6 (l7 / 5).toNatClampNeg) = 2 then (fX5_findSpots_J148 k7 k39 k87 l1 l2 l3 l4 l5 l7 l6 σ11) else (if r10 < l5 then (fX5_findSpots_J144 k7 k39 k87 l1 l2 l3 l4 l5 l7 l6 σ11) else (if r10 = l5 then (if l4 ≤ l7 then (fX5_findSpots_J148 k7 k39 k87 l1 l2 l3 l4 l5 l7 l6 σ11) else (fX5_findSpots_J144 k7 k39 k87 l1 l2 l3 l4 l5 l7 l6 σ11)) else (fX5_findSpots_J148 k7 k39 k87 l1 l2 l3 l4 l5 l7 l6 σ11))) else none))
set_option maxRecDepth 10000 in
theorem xX5_findSpots_B87 (k7 : Int32 → Int32 → ST → Option (Unit × ST)) (k39 : Int32 → Int32 → Int32 → Int32 → ST → Option (Unit × ST)) (k87 : Int32 → Int32 → Int32 → Int32 → Int32 → Int32 → Int32 → ST → Option (Unit × ST)) (hk7 : ∀ (l1 : Int32) (l2 : Int32) (σ : ST), AW wlM yX5_findSpots cX5_findSpots 9 none rmX5_findSpots emV (k7 l1 l2 σ) 7 [some (.inr (some 0)), some (.inl l1), some (.inl l2), none, none, none, none, none, none] [] σ) (hk39 : ∀ (l1 : Int32) (l2 : Int32) (l3 : Int32) (l4 : Int32) (σ : ST), AW wlM yX5_findSpots cX5_findSpots 9 none rmX5_findSpots emV (k39 l1 l2 l3 l4 σ) 39 [some (.inr (some 0)), some (.inl l1), some (.inl l2), some (.inl l3), some (.inl l4), none, none, none, none] [] σ) (hk87 : ∀ (l1 : Int32) (l2 : Int32) (l3 : Int32) (l4 : Int32) (l5 : Int32) (l6 : Int32) (l7 : Int32) (σ : ST), AW wlM yX5_findSpots cX5_findSpots 9 none rmX5_findSpots emV (k87 l1 l2 l3 l4 l5 l6 l7 σ) 87 [some (.inr (some 0)), some (.inl l1), some (.inl l2), some (.inl l3), some (.inl l4), some (.inl l5), some (.inl l6), some (.inl l7), none] [] σ) (l1 : Int32) (l2 : Int32) (l3 : Int32) (l4 : Int32) (l5 : Int32) (l6 : Int32) (l7 : Int32) (σ : ST) : AW wlM yX5_findSpots cX5_findSpots 9 none rmX5_findSpots emV (fX5_findSpots_B87 k7 k39 k87 l1 l2 l3 l4 l5 l6 l7 σ) 87 [some (.inr (some 0)), some (.inl l1), some (.inl l2), some (.inl l3), some (.inl l4), some (.inl l5), some (.inl l6), some (.inl l7), none] [] σ := by
  unfold fX5_findSpots_B87
  refine aw_iload (pc := 87) dX5_findSpots_87 rfl ?_
  refine aw_iconst (pc := 89) (v := 5) dX5_findSpots_89 (by decide) ?_
  refine aw_aload_n (pc := 90) dX5_findSpots_90 rfl rfl ?_
  refine aw_get (pc := 91) (v := .inl (σ.1 0 8)) foX5_94 (atM0 _) rfl dX5_findSpots_91 ?_
  refine aw_imul (pc := 94) dX5_findSpots_94 ?_
  refine aw_icmp_ge (pc := 95) (tgt := 158) dX5_findSpots_95 (by decide) (fun _ => ?_) (fun _ => ?_)
  · refine aw_iload (pc := 158) dX5_findSpots_158 rfl ?_
    refine aw_bipush (pc := 160) (v := 10) dX5_findSpots_160 (by decide) ?_
    refine aw_icmp_ge (pc := 162) (tgt := 193) dX5_findSpots_162 (by decide) (fun _ => ?_) (fun _ => ?_)
    · exact aw_wk (wk_same (wk_same (wk_same (wk_same (wk_same (wk_none (wk_none (wk_none (wk_none wk_nil))))))))) (xX5_findSpots_J193 k7 k39 hk7 hk39 l1 l2 l3 l4 σ)
    refine aw_aload_n (pc := 165) dX5_findSpots_165 rfl rfl ?_
    refine aw_get (pc := 166) (v := .inr (some 19)) foX5_72 (atM0 _) rfl dX5_findSpots_166 ?_
    refine aw_bipush (pc := 169) (v := 10) dX5_findSpots_169 (by decide) ?_
    refine aw_iload_n (pc := 171) dX5_findSpots_171 rfl rfl ?_
    refine aw_imul (pc := 172) dX5_findSpots_172 ?_
    refine aw_aload_n (pc := 173) dX5_findSpots_173 rfl rfl ?_
    refine aw_get (pc := 174) (v := .inr (some 20)) foX5_75 (atM0 _) rfl dX5_findSpots_174 ?_
    refine aw_iload_n (pc := 177) dX5_findSpots_177 rfl rfl ?_
    refine aw_iald' (pc := 178) (atM20 _) dX5_findSpots_178 ?_
    refine aw_iadd (pc := 179) dX5_findSpots_179 ?_
    refine aw_iload (pc := 180) dX5_findSpots_180 rfl ?_
    refine aw_iastB (pc := 182) (atM19 _) (stM19 _ _ _) dX5_findSpots_182 (fun σ8 => ?_)
    refine aw_aload_n (pc := 183) dX5_findSpots_183 rfl rfl ?_
    refine aw_get (pc := 184) (v := .inr (some 20)) foX5_75 (atM0 _) rfl dX5_findSpots_184 ?_
    refine aw_iload_n (pc := 187) dX5_findSpots_187 rfl rfl ?_
    refine aw_dup2 (pc := 188) dX5_findSpots_188 ?_
    refine aw_iald' (pc := 189) (atM20 _) dX5_findSpots_189 ?_
    refine aw_iconst (pc := 190) (v := 1) dX5_findSpots_190 (by decide) ?_
    refine aw_iadd (pc := 191) dX5_findSpots_191 ?_
    refine aw_iastB (pc := 192) (atM20 _) (stM20 _ _ _) dX5_findSpots_192 (fun σ9 => ?_)
    exact aw_wk (wk_same (wk_same (wk_same (wk_same (wk_same (wk_none (wk_none (wk_none (wk_none wk_nil))))))))) (xX5_findSpots_J193 k7 k39 hk7 hk39 l1 l2 l3 l4 σ9)
  refine aw_aload_n (pc := 98) dX5_findSpots_98 rfl rfl ?_
  refine aw_iload_n (pc := 99) dX5_findSpots_99 rfl rfl ?_
  refine aw_iload_n (pc := 100) dX5_findSpots_100 rfl rfl ?_
  refine aw_iload (pc := 101) dX5_findSpots_101 rfl ?_
  refine aw_cVI (pc := 103) (st := []) (xX5_offOf l1 l2 l7 σ) (atM0 _) rfl ckX5_150 ⟨rfl, rfl, by decide, by decide⟩ (Nat.le_of_ble_eq_true rfl) dX5_findSpots_103 rfl (fun r10 σ11 => ?_)
  refine aw_st (pc := 106) (L' := [some (.inr (some 0)), some (.inl l1), some (.inl l2), some (.inl l3), some (.inl l4), some (.inl l5), some (.inl l6), some (.inl l7), some (.inl r10)]) dX5_findSpots_106 (by decide) rfl ?_
  refine aw_iload (pc := 108) dX5_findSpots_108 rfl ?_
  refine aw_aload_n (pc := 110) dX5_findSpots_110 rfl rfl ?_
  refine aw_get (pc := 111) (v := .inr (some 6)) foX5_25 (atM0 _) rfl dX5_findSpots_111 ?_
  refine aw_iload (pc := 114) dX5_findSpots_114 rfl ?_
  refine aw_iconst (pc := 116) (v := 5) dX5_findSpots_116 (by decide) ?_
  refine aw_idiv (pc := 117) dX5_findSpots_117 (by decide) ?_
  refine aw_iald' (pc := 118) (atM6 _) dX5_findSpots_118 ?_
  refine aw_iconst (pc := 119) (v := 2) dX5_findSpots_119 (by decide) ?_
  refine aw_icmp_eq (pc := 120) (tgt := 148) dX5_findSpots_120 (by decide) (fun _ => ?_) (fun _ => ?_)
  · exact aw_wk (wk_same (wk_same (wk_same (wk_same (wk_same (wk_same (wk_none (wk_same (wk_none wk_nil))))))))) (xX5_findSpots_J148 k7 k39 k87 hk7 hk39 hk87 l1 l2 l3 l4 l5 l7 l6 σ11)
  refine aw_iload (pc := 123) dX5_findSpots_123 rfl ?_
  refine aw_iload (pc := 125) dX5_findSpots_125 rfl ?_
  refine aw_icmp_lt (pc := 127) (tgt := 144) dX5_findSpots_127 (by decide) (fun _ => ?_) (fun _ => ?_)
  · exact aw_wk (wk_same (wk_same (wk_same (wk_same (wk_same (wk_same (wk_none (wk_same (wk_none wk_nil))))))))) (xX5_findSpots_J144 k7 k39 k87 hk7 hk39 hk87 l1 l2 l3 l4 l5 l7 l6 σ11)
  refine aw_iload (pc := 130) dX5_findSpots_130 rfl ?_
  refine aw_iload (pc := 132) dX5_findSpots_132 rfl ?_
  refine aw_icmp_ne (pc := 134) (tgt := 148) dX5_findSpots_134 (by decide) (fun _ => ?_) (fun _ => ?_)
  · refine aw_iload (pc := 137) dX5_findSpots_137 rfl ?_
    refine aw_iload (pc := 139) dX5_findSpots_139 rfl ?_
    refine aw_icmp_ge (pc := 141) (tgt := 148) dX5_findSpots_141 (by decide) (fun _ => ?_) (fun _ => ?_)
    · exact aw_wk (wk_same (wk_same (wk_same (wk_same (wk_same (wk_same (wk_none (wk_same (wk_none wk_nil))))))))) (xX5_findSpots_J148 k7 k39 k87 hk7 hk39 hk87 l1 l2 l3 l4 l5 l7 l6 σ11)
    exact aw_wk (wk_same (wk_same (wk_same (wk_same (wk_same (wk_same (wk_none (wk_same (wk_none wk_nil))))))))) (xX5_findSpots_J144 k7 k39 k87 hk7 hk39 hk87 l1 l2 l3 l4 l5 l7 l6 σ11)
  exact aw_wk (wk_same (wk_same (wk_same (wk_same (wk_same (wk_same (wk_none (wk_same (wk_none wk_nil))))))))) (xX5_findSpots_J148 k7 k39 k87 hk7 hk39 hk87 l1 l2 l3 l4 l5 l7 l6 σ11)
noncomputable def fX5_findSpots_L87 (k7 : Int32 → Int32 → ST → Option (Unit × ST)) (k39 : Int32 → Int32 → Int32 → Int32 → ST → Option (Unit × ST)) (n : Nat) (l1 : Int32) (l2 : Int32) (l3 : Int32) (l4 : Int32) (l5 : Int32) (l6 : Int32) (l7 : Int32) (σ : ST) : Option (Unit × ST) := loopN (α := Int32 × Int32 × Int32 × Int32 × Int32 × Int32 × Int32 × ST) (fun k a => fX5_findSpots_B87 k7 k39 (fun l1 l2 l3 l4 l5 l6 l7 σ => k (l1, l2, l3, l4, l5, l6, l7, σ)) a.1 a.2.1 a.2.2.1 a.2.2.2.1 a.2.2.2.2.1 a.2.2.2.2.2.1 a.2.2.2.2.2.2.1 a.2.2.2.2.2.2.2) n (l1, l2, l3, l4, l5, l6, l7, σ)
theorem xX5_findSpots_L87 (k7 : Int32 → Int32 → ST → Option (Unit × ST)) (k39 : Int32 → Int32 → Int32 → Int32 → ST → Option (Unit × ST)) (hk7 : ∀ (l1 : Int32) (l2 : Int32) (σ : ST), AW wlM yX5_findSpots cX5_findSpots 9 none rmX5_findSpots emV (k7 l1 l2 σ) 7 [some (.inr (some 0)), some (.inl l1), some (.inl l2), none, none, none, none, none, none] [] σ) (hk39 : ∀ (l1 : Int32) (l2 : Int32) (l3 : Int32) (l4 : Int32) (σ : ST), AW wlM yX5_findSpots cX5_findSpots 9 none rmX5_findSpots emV (k39 l1 l2 l3 l4 σ) 39 [some (.inr (some 0)), some (.inl l1), some (.inl l2), some (.inl l3), some (.inl l4), none, none, none, none] [] σ) (n : Nat) (l1 : Int32) (l2 : Int32) (l3 : Int32) (l4 : Int32) (l5 : Int32) (l6 : Int32) (l7 : Int32) (σ : ST) : AW wlM yX5_findSpots cX5_findSpots 9 none rmX5_findSpots emV (fX5_findSpots_L87 k7 k39 n l1 l2 l3 l4 l5 l6 l7 σ) 87 [some (.inr (some 0)), some (.inl l1), some (.inl l2), some (.inl l3), some (.inl l4), some (.inl l5), some (.inl l6), some (.inl l7), none] [] σ :=
  aw_loop (α := Int32 × Int32 × Int32 × Int32 × Int32 × Int32 × Int32 × ST) (Lf := fun a => [some (.inr (some 0)), some (.inl (a.1)), some (.inl (a.2.1)), some (.inl (a.2.2.1)), some (.inl (a.2.2.2.1)), some (.inl (a.2.2.2.2.1)), some (.inl (a.2.2.2.2.2.1)), some (.inl (a.2.2.2.2.2.2.1)), none]) (sf := fun a => a.2.2.2.2.2.2.2) (fun k hk a => by
    obtain ⟨l1, l2, l3, l4, l5, l6, l7, σ⟩ := a
    exact xX5_findSpots_B87 k7 k39 (fun l1 l2 l3 l4 l5 l6 l7 σ => k (l1, l2, l3, l4, l5, l6, l7, σ)) hk7 hk39 (fun l1 l2 l3 l4 l5 l6 l7 σ => hk (l1, l2, l3, l4, l5, l6, l7, σ)) l1 l2 l3 l4 l5 l6 l7 σ) n (l1, l2, l3, l4, l5, l6, l7, σ)
noncomputable def fX5_findSpots_B39 (k7 : Int32 → Int32 → ST → Option (Unit × ST)) (k39 : Int32 → Int32 → Int32 → Int32 → ST → Option (Unit × ST)) (l1 : Int32) (l2 : Int32) (l3 : Int32) (l4 : Int32) (σ : ST) : Option (Unit × ST) :=
  if (5 * (σ.1 0 8)) ≤ l4 then (bindv (l2 + 1) (fun v4 => k7 l1 v4 σ)) else (cb (fX5_offOf l1 l2 l4 σ) (fun r5 σ6 => if ib (l4 / 5) 30 = true then if (σ6.1 6 (l4 / 5).toNatClampNeg) = 2 then (fX5_findSpots_J193 k7 k39 l1 l2 l3 l4 σ6) else (if (l3 * l3) < r5 then (fX5_findSpots_J193 k7 k39 l1 l2 l3 l4 σ6) else (fX5_findSpots_L87 k7 k39 FU l1 l2 l3 l4 r5 0 0 σ6)) else none))
set_option maxRecDepth 10000 in
theorem xX5_findSpots_B39 (k7 : Int32 → Int32 → ST → Option (Unit × ST)) (k39 : Int32 → Int32 → Int32 → Int32 → ST → Option (Unit × ST)) (hk7 : ∀ (l1 : Int32) (l2 : Int32) (σ : ST), AW wlM yX5_findSpots cX5_findSpots 9 none rmX5_findSpots emV (k7 l1 l2 σ) 7 [some (.inr (some 0)), some (.inl l1), some (.inl l2), none, none, none, none, none, none] [] σ) (hk39 : ∀ (l1 : Int32) (l2 : Int32) (l3 : Int32) (l4 : Int32) (σ : ST), AW wlM yX5_findSpots cX5_findSpots 9 none rmX5_findSpots emV (k39 l1 l2 l3 l4 σ) 39 [some (.inr (some 0)), some (.inl l1), some (.inl l2), some (.inl l3), some (.inl l4), none, none, none, none] [] σ) (l1 : Int32) (l2 : Int32) (l3 : Int32) (l4 : Int32) (σ : ST) : AW wlM yX5_findSpots cX5_findSpots 9 none rmX5_findSpots emV (fX5_findSpots_B39 k7 k39 l1 l2 l3 l4 σ) 39 [some (.inr (some 0)), some (.inl l1), some (.inl l2), some (.inl l3), some (.inl l4), none, none, none, none] [] σ := by
  unfold fX5_findSpots_B39
  refine aw_iload (pc := 39) dX5_findSpots_39 rfl ?_
  refine aw_iconst (pc := 41) (v := 5) dX5_findSpots_41 (by decide) ?_
  refine aw_aload_n (pc := 42) dX5_findSpots_42 rfl rfl ?_
  refine aw_get (pc := 43) (v := .inl (σ.1 0 8)) foX5_94 (atM0 _) rfl dX5_findSpots_43 ?_
  refine aw_imul (pc := 46) dX5_findSpots_46 ?_
  refine aw_icmp_ge (pc := 47) (tgt := 199) dX5_findSpots_47 (by decide) (fun _ => ?_) (fun _ => ?_)
  · refine aw_iincB (pc := 199) (v := 1) (Lf := fun v4 => [some (.inr (some 0)), some (.inl l1), some (.inl v4), some (.inl l3), some (.inl l4), none, none, none, none]) dX5_findSpots_199 rfl (by decide) (by decide) (fun _ => rfl) (fun v4 => ?_)
    refine aw_goto (pc := 202) (tgt := 7) dX5_findSpots_202 (by decide) ?_
    exact aw_wk (wk_same (wk_same (wk_same (wk_none (wk_none (wk_none (wk_none (wk_none (wk_none wk_nil))))))))) (hk7 l1 v4 σ)
  refine aw_aload_n (pc := 50) dX5_findSpots_50 rfl rfl ?_
  refine aw_iload_n (pc := 51) dX5_findSpots_51 rfl rfl ?_
  refine aw_iload_n (pc := 52) dX5_findSpots_52 rfl rfl ?_
  refine aw_iload (pc := 53) dX5_findSpots_53 rfl ?_
  refine aw_cVI (pc := 55) (st := []) (xX5_offOf l1 l2 l4 σ) (atM0 _) rfl ckX5_150 ⟨rfl, rfl, by decide, by decide⟩ (Nat.le_of_ble_eq_true rfl) dX5_findSpots_55 rfl (fun r5 σ6 => ?_)
  refine aw_st (pc := 58) (L' := [some (.inr (some 0)), some (.inl l1), some (.inl l2), some (.inl l3), some (.inl l4), some (.inl r5), none, none, none]) dX5_findSpots_58 (by decide) rfl ?_
  refine aw_aload_n (pc := 60) dX5_findSpots_60 rfl rfl ?_
  refine aw_get (pc := 61) (v := .inr (some 6)) foX5_25 (atM0 _) rfl dX5_findSpots_61 ?_
  refine aw_iload (pc := 64) dX5_findSpots_64 rfl ?_
  refine aw_iconst (pc := 66) (v := 5) dX5_findSpots_66 (by decide) ?_
  refine aw_idiv (pc := 67) dX5_findSpots_67 (by decide) ?_
  refine aw_iald' (pc := 68) (atM6 _) dX5_findSpots_68 ?_
  refine aw_iconst (pc := 69) (v := 2) dX5_findSpots_69 (by decide) ?_
  refine aw_icmp_eq (pc := 70) (tgt := 193) dX5_findSpots_70 (by decide) (fun _ => ?_) (fun _ => ?_)
  · exact aw_wk (wk_same (wk_same (wk_same (wk_same (wk_same (wk_none (wk_none (wk_none (wk_none wk_nil))))))))) (xX5_findSpots_J193 k7 k39 hk7 hk39 l1 l2 l3 l4 σ6)
  refine aw_iload (pc := 73) dX5_findSpots_73 rfl ?_
  refine aw_iload_n (pc := 75) dX5_findSpots_75 rfl rfl ?_
  refine aw_iload_n (pc := 76) dX5_findSpots_76 rfl rfl ?_
  refine aw_imul (pc := 77) dX5_findSpots_77 ?_
  refine aw_icmp_gt (pc := 78) (tgt := 193) dX5_findSpots_78 (by decide) (fun _ => ?_) (fun _ => ?_)
  · exact aw_wk (wk_same (wk_same (wk_same (wk_same (wk_same (wk_none (wk_none (wk_none (wk_none wk_nil))))))))) (xX5_findSpots_J193 k7 k39 hk7 hk39 l1 l2 l3 l4 σ6)
  refine aw_iconst (pc := 81) (v := 0) dX5_findSpots_81 (by decide) ?_
  refine aw_st (pc := 82) (L' := [some (.inr (some 0)), some (.inl l1), some (.inl l2), some (.inl l3), some (.inl l4), some (.inl r5), some (.inl 0), none, none]) dX5_findSpots_82 (by decide) rfl ?_
  refine aw_iconst (pc := 84) (v := 0) dX5_findSpots_84 (by decide) ?_
  refine aw_st (pc := 85) (L' := [some (.inr (some 0)), some (.inl l1), some (.inl l2), some (.inl l3), some (.inl l4), some (.inl r5), some (.inl 0), some (.inl 0), none]) dX5_findSpots_85 (by decide) rfl ?_
  exact aw_wk (wk_same (wk_same (wk_same (wk_same (wk_same (wk_same (wk_same (wk_same (wk_none wk_nil))))))))) (xX5_findSpots_L87 k7 k39 hk7 hk39 FU l1 l2 l3 l4 r5 0 0 σ6)
noncomputable def fX5_findSpots_L39 (k7 : Int32 → Int32 → ST → Option (Unit × ST)) (n : Nat) (l1 : Int32) (l2 : Int32) (l3 : Int32) (l4 : Int32) (σ : ST) : Option (Unit × ST) := loopN (α := Int32 × Int32 × Int32 × Int32 × ST) (fun k a => fX5_findSpots_B39 k7 (fun l1 l2 l3 l4 σ => k (l1, l2, l3, l4, σ)) a.1 a.2.1 a.2.2.1 a.2.2.2.1 a.2.2.2.2) n (l1, l2, l3, l4, σ)
theorem xX5_findSpots_L39 (k7 : Int32 → Int32 → ST → Option (Unit × ST)) (hk7 : ∀ (l1 : Int32) (l2 : Int32) (σ : ST), AW wlM yX5_findSpots cX5_findSpots 9 none rmX5_findSpots emV (k7 l1 l2 σ) 7 [some (.inr (some 0)), some (.inl l1), some (.inl l2), none, none, none, none, none, none] [] σ) (n : Nat) (l1 : Int32) (l2 : Int32) (l3 : Int32) (l4 : Int32) (σ : ST) : AW wlM yX5_findSpots cX5_findSpots 9 none rmX5_findSpots emV (fX5_findSpots_L39 k7 n l1 l2 l3 l4 σ) 39 [some (.inr (some 0)), some (.inl l1), some (.inl l2), some (.inl l3), some (.inl l4), none, none, none, none] [] σ :=
  aw_loop (α := Int32 × Int32 × Int32 × Int32 × ST) (Lf := fun a => [some (.inr (some 0)), some (.inl (a.1)), some (.inl (a.2.1)), some (.inl (a.2.2.1)), some (.inl (a.2.2.2.1)), none, none, none, none]) (sf := fun a => a.2.2.2.2) (fun k hk a => by
    obtain ⟨l1, l2, l3, l4, σ⟩ := a
    exact xX5_findSpots_B39 k7 (fun l1 l2 l3 l4 σ => k (l1, l2, l3, l4, σ)) hk7 (fun l1 l2 l3 l4 σ => hk (l1, l2, l3, l4, σ)) l1 l2 l3 l4 σ) n (l1, l2, l3, l4, σ)
noncomputable def fX5_findSpots_B7 (k7 : Int32 → Int32 → ST → Option (Unit × ST)) (l1 : Int32) (l2 : Int32) (σ : ST) : Option (Unit × ST) :=
  if ib l1 6 = true then if (σ.1 13 l1.toNatClampNeg) ≤ l2 then (some ((), σ)) else (if ib ((20 * l1) + l2) 120 = true then bindv (σ.1 12 ((20 * l1) + l2).toNatClampNeg) (fun v2 => if ib l2 20 = true then bindv (stI σ 20 l2.toNatClampNeg 0) (fun σ3 => fX5_findSpots_L39 k7 FU l1 l2 v2 0 σ3) else none) else none) else none
set_option maxRecDepth 10000 in
theorem xX5_findSpots_B7 (k7 : Int32 → Int32 → ST → Option (Unit × ST)) (hk7 : ∀ (l1 : Int32) (l2 : Int32) (σ : ST), AW wlM yX5_findSpots cX5_findSpots 9 none rmX5_findSpots emV (k7 l1 l2 σ) 7 [some (.inr (some 0)), some (.inl l1), some (.inl l2), none, none, none, none, none, none] [] σ) (l1 : Int32) (l2 : Int32) (σ : ST) : AW wlM yX5_findSpots cX5_findSpots 9 none rmX5_findSpots emV (fX5_findSpots_B7 k7 l1 l2 σ) 7 [some (.inr (some 0)), some (.inl l1), some (.inl l2), none, none, none, none, none, none] [] σ := by
  unfold fX5_findSpots_B7
  refine aw_iload_n (pc := 7) dX5_findSpots_7 rfl rfl ?_
  refine aw_aload_n (pc := 8) dX5_findSpots_8 rfl rfl ?_
  refine aw_get (pc := 9) (v := .inr (some 13)) foX5_47 (atM0 _) rfl dX5_findSpots_9 ?_
  refine aw_iload_n (pc := 12) dX5_findSpots_12 rfl rfl ?_
  refine aw_iald' (pc := 13) (atM13 _) dX5_findSpots_13 ?_
  refine aw_icmp_ge (pc := 14) (tgt := 205) dX5_findSpots_14 (by decide) (fun _ => ?_) (fun _ => ?_)
  · exact aw_ret_v (pc := 205) rfl rfl dX5_findSpots_205
  refine aw_aload_n (pc := 17) dX5_findSpots_17 rfl rfl ?_
  refine aw_get (pc := 18) (v := .inr (some 12)) foX5_44 (atM0 _) rfl dX5_findSpots_18 ?_
  refine aw_bipush (pc := 21) (v := 20) dX5_findSpots_21 (by decide) ?_
  refine aw_iload_n (pc := 23) dX5_findSpots_23 rfl rfl ?_
  refine aw_imul (pc := 24) dX5_findSpots_24 ?_
  refine aw_iload_n (pc := 25) dX5_findSpots_25 rfl rfl ?_
  refine aw_iadd (pc := 26) dX5_findSpots_26 ?_
  refine aw_iald' (pc := 27) (atM12 _) dX5_findSpots_27 ?_
  refine aw_stnB (pc := 28) (Lf := fun v2 => [some (.inr (some 0)), some (.inl l1), some (.inl l2), some (.inl v2), none, none, none, none, none]) dX5_findSpots_28 rfl (by decide) (fun _ => rfl) (fun v2 => ?_)
  refine aw_aload_n (pc := 29) dX5_findSpots_29 rfl rfl ?_
  refine aw_get (pc := 30) (v := .inr (some 20)) foX5_75 (atM0 _) rfl dX5_findSpots_30 ?_
  refine aw_iload_n (pc := 33) dX5_findSpots_33 rfl rfl ?_
  refine aw_iconst (pc := 34) (v := 0) dX5_findSpots_34 (by decide) ?_
  refine aw_iastB (pc := 35) (atM20 _) (stM20 _ _ _) dX5_findSpots_35 (fun σ3 => ?_)
  refine aw_iconst (pc := 36) (v := 0) dX5_findSpots_36 (by decide) ?_
  refine aw_st (pc := 37) (L' := [some (.inr (some 0)), some (.inl l1), some (.inl l2), some (.inl v2), some (.inl 0), none, none, none, none]) dX5_findSpots_37 (by decide) rfl ?_
  exact aw_wk (wk_same (wk_same (wk_same (wk_same (wk_same (wk_none (wk_none (wk_none (wk_none wk_nil))))))))) (xX5_findSpots_L39 k7 hk7 FU l1 l2 v2 0 σ3)
noncomputable def fX5_findSpots_L7 (n : Nat) (l1 : Int32) (l2 : Int32) (σ : ST) : Option (Unit × ST) := loopN (α := Int32 × Int32 × ST) (fun k a => fX5_findSpots_B7 (fun l1 l2 σ => k (l1, l2, σ)) a.1 a.2.1 a.2.2) n (l1, l2, σ)
theorem xX5_findSpots_L7 (n : Nat) (l1 : Int32) (l2 : Int32) (σ : ST) : AW wlM yX5_findSpots cX5_findSpots 9 none rmX5_findSpots emV (fX5_findSpots_L7 n l1 l2 σ) 7 [some (.inr (some 0)), some (.inl l1), some (.inl l2), none, none, none, none, none, none] [] σ :=
  aw_loop (α := Int32 × Int32 × ST) (Lf := fun a => [some (.inr (some 0)), some (.inl (a.1)), some (.inl (a.2.1)), none, none, none, none, none, none]) (sf := fun a => a.2.2) (fun k hk a => by
    obtain ⟨l1, l2, σ⟩ := a
    exact xX5_findSpots_B7 (fun l1 l2 σ => k (l1, l2, σ)) (fun l1 l2 σ => hk (l1, l2, σ)) l1 l2 σ) n (l1, l2, σ)
noncomputable def fX5_findSpots (a1 : Int32) (σ : ST) : Option (Unit × ST) :=
  bindv (stI σ 0 31 a1) (fun σ1 => fX5_findSpots_L7 FU a1 0 σ1)
set_option maxRecDepth 10000 in
theorem xX5_findSpots (a1 : Int32) (σ : ST) : MS wlM yX5_findSpots cX5_findSpots 9 none rmX5_findSpots emV [.inr (some 0), .inl a1] σ (fX5_findSpots a1 σ) := by
  refine MS.of (by decide +kernel) (Nat.le_of_ble_eq_true rfl) ?_
  show AW wlM yX5_findSpots cX5_findSpots 9 none rmX5_findSpots emV (fX5_findSpots a1 σ) 0 [some (.inr (some 0)), some (.inl a1), none, none, none, none, none, none, none] [] σ
  unfold fX5_findSpots
  refine aw_aload_n (pc := 0) dX5_findSpots_0 rfl rfl ?_
  refine aw_iload_n (pc := 1) dX5_findSpots_1 rfl rfl ?_
  refine aw_putI (pc := 2) fwX5_147 (atM0 _) (Nat.le_of_ble_eq_true rfl) (stM0_31 _ _) dX5_findSpots_2 (fun σ1 => ?_)
  refine aw_iconst (pc := 5) (v := 0) dX5_findSpots_5 (by decide) ?_
  refine aw_stn (pc := 6) (L' := [some (.inr (some 0)), some (.inl a1), some (.inl 0), none, none, none, none, none, none]) dX5_findSpots_6 rfl (by decide) rfl ?_
  exact aw_wk (wk_same (wk_same (wk_same (wk_none (wk_none (wk_none (wk_none (wk_none (wk_none wk_nil))))))))) (xX5_findSpots_L7 FU a1 0 σ1)
abbrev rmX5_spot : Room := { frames := 2, cells := 0, slots := 0, locals := 55 }
noncomputable def fX5_spot (a1 : Int32) (a2 : Int32) (a3 : Int32) (σ : ST) : Option (Int32 × ST) :=
  cb (fX5_isSight a1 a2 σ) (fun r1 σ2 => if r1 = 0 then (some ((-1), σ2)) else (cb (fX5_findSpots a1 σ2) (fun r3 σ4 => if a3 = (-1) then (if ib a2 20 = true then some ((σ4.1 20 a2.toNatClampNeg), σ4) else none) else (if a3 < 0 then (some ((-1), σ4)) else (if ib a2 20 = true then if (σ4.1 20 a2.toNatClampNeg) ≤ a3 then (some ((-1), σ4)) else (if ib ((10 * a2) + a3) 200 = true then some ((σ4.1 19 ((10 * a2) + a3).toNatClampNeg), σ4) else none) else none)))))
set_option maxRecDepth 10000 in
theorem xX5_spot (a1 : Int32) (a2 : Int32) (a3 : Int32) (σ : ST) : MS wlM yX5_spot cX5_spot 4 (some .int) rmX5_spot emI [.inr (some 0), .inl a1, .inl a2, .inl a3] σ (fX5_spot a1 a2 a3 σ) := by
  refine MS.of (by decide +kernel) (Nat.le_of_ble_eq_true rfl) ?_
  show AW wlM yX5_spot cX5_spot 4 (some .int) rmX5_spot emI (fX5_spot a1 a2 a3 σ) 0 [some (.inr (some 0)), some (.inl a1), some (.inl a2), some (.inl a3)] [] σ
  unfold fX5_spot
  refine aw_aload_n (pc := 0) dX5_spot_0 rfl rfl ?_
  refine aw_iload_n (pc := 1) dX5_spot_1 rfl rfl ?_
  refine aw_iload_n (pc := 2) dX5_spot_2 rfl rfl ?_
  refine aw_cVI (pc := 3) (st := []) (xX5_isSight a1 a2 σ) (atM0 _) rfl ckX5_154 ⟨rfl, rfl, by decide, by decide⟩ (Nat.le_of_ble_eq_true rfl) dX5_spot_3 rfl (fun r1 σ2 => ?_)
  refine aw_if_ne (pc := 6) (tgt := 11) dX5_spot_6 (by decide) (fun _ => ?_) (fun _ => ?_)
  · refine aw_iconst (pc := 9) (v := (-1)) dX5_spot_9 (by decide) ?_
    exact aw_ret_i (pc := 10) rfl rfl rfl dX5_spot_10
  refine aw_aload_n (pc := 11) dX5_spot_11 rfl rfl ?_
  refine aw_iload_n (pc := 12) dX5_spot_12 rfl rfl ?_
  refine aw_cVV (pc := 13) (st := []) (xX5_findSpots a1 σ2) (atM0 _) rfl ckX5_158 ⟨rfl, rfl, by decide, by decide⟩ (Nat.le_of_ble_eq_true rfl) dX5_spot_13 rfl (fun r3 σ4 => ?_)
  refine aw_iload_n (pc := 16) dX5_spot_16 rfl rfl ?_
  refine aw_iconst (pc := 17) (v := (-1)) dX5_spot_17 (by decide) ?_
  refine aw_icmp_ne (pc := 18) (tgt := 30) dX5_spot_18 (by decide) (fun _ => ?_) (fun _ => ?_)
  · refine aw_aload_n (pc := 21) dX5_spot_21 rfl rfl ?_
    refine aw_get (pc := 22) (v := .inr (some 20)) foX5_75 (atM0 _) rfl dX5_spot_22 ?_
    refine aw_iload_n (pc := 25) dX5_spot_25 rfl rfl ?_
    refine aw_iald' (pc := 26) (atM20 _) dX5_spot_26 ?_
    refine aw_goto (pc := 27) (tgt := 59) dX5_spot_27 (by decide) ?_
    exact aw_ret_i (pc := 59) rfl rfl rfl dX5_spot_59
  refine aw_iload_n (pc := 30) dX5_spot_30 rfl rfl ?_
  refine aw_if_lt (pc := 31) (tgt := 58) dX5_spot_31 (by decide) (fun _ => ?_) (fun _ => ?_)
  · refine aw_iconst (pc := 58) (v := (-1)) dX5_spot_58 (by decide) ?_
    exact aw_ret_i (pc := 59) rfl rfl rfl dX5_spot_59
  refine aw_iload_n (pc := 34) dX5_spot_34 rfl rfl ?_
  refine aw_aload_n (pc := 35) dX5_spot_35 rfl rfl ?_
  refine aw_get (pc := 36) (v := .inr (some 20)) foX5_75 (atM0 _) rfl dX5_spot_36 ?_
  refine aw_iload_n (pc := 39) dX5_spot_39 rfl rfl ?_
  refine aw_iald' (pc := 40) (atM20 _) dX5_spot_40 ?_
  refine aw_icmp_ge (pc := 41) (tgt := 58) dX5_spot_41 (by decide) (fun _ => ?_) (fun _ => ?_)
  · refine aw_iconst (pc := 58) (v := (-1)) dX5_spot_58 (by decide) ?_
    exact aw_ret_i (pc := 59) rfl rfl rfl dX5_spot_59
  refine aw_aload_n (pc := 44) dX5_spot_44 rfl rfl ?_
  refine aw_get (pc := 45) (v := .inr (some 19)) foX5_72 (atM0 _) rfl dX5_spot_45 ?_
  refine aw_bipush (pc := 48) (v := 10) dX5_spot_48 (by decide) ?_
  refine aw_iload_n (pc := 50) dX5_spot_50 rfl rfl ?_
  refine aw_imul (pc := 51) dX5_spot_51 ?_
  refine aw_iload_n (pc := 52) dX5_spot_52 rfl rfl ?_
  refine aw_iadd (pc := 53) dX5_spot_53 ?_
  refine aw_iald' (pc := 54) (atM19 _) dX5_spot_54 ?_
  refine aw_goto (pc := 55) (tgt := 59) dX5_spot_55 (by decide) ?_
  exact aw_ret_i (pc := 59) rfl rfl rfl dX5_spot_59
abbrev rmX5_off : Room := { frames := 2, cells := 0, slots := 0, locals := 43 }
noncomputable def fX5_off (a1 : Int32) (a2 : Int32) (a3 : Int32) (σ : ST) : Option (Int32 × ST) :=
  cb (fX5_isSight a1 a2 σ) (fun r1 σ2 => if r1 = 0 then (some ((-1), σ2)) else (cb (fX5_isPoint a3 σ2) (fun r3 σ4 => if r3 = 0 then (some ((-1), σ4)) else (cb (fX5_offOf a1 a2 a3 σ4) (fun r5 σ6 => some (r5, σ6))))))
set_option maxRecDepth 10000 in
theorem xX5_off (a1 : Int32) (a2 : Int32) (a3 : Int32) (σ : ST) : MS wlM yX5_off cX5_off 4 (some .int) rmX5_off emI [.inr (some 0), .inl a1, .inl a2, .inl a3] σ (fX5_off a1 a2 a3 σ) := by
  refine MS.of (by decide +kernel) (Nat.le_of_ble_eq_true rfl) ?_
  show AW wlM yX5_off cX5_off 4 (some .int) rmX5_off emI (fX5_off a1 a2 a3 σ) 0 [some (.inr (some 0)), some (.inl a1), some (.inl a2), some (.inl a3)] [] σ
  unfold fX5_off
  refine aw_aload_n (pc := 0) dX5_off_0 rfl rfl ?_
  refine aw_iload_n (pc := 1) dX5_off_1 rfl rfl ?_
  refine aw_iload_n (pc := 2) dX5_off_2 rfl rfl ?_
  refine aw_cVI (pc := 3) (st := []) (xX5_isSight a1 a2 σ) (atM0 _) rfl ckX5_154 ⟨rfl, rfl, by decide, by decide⟩ (Nat.le_of_ble_eq_true rfl) dX5_off_3 rfl (fun r1 σ2 => ?_)
  refine aw_if_eq (pc := 6) (tgt := 27) dX5_off_6 (by decide) (fun _ => ?_) (fun _ => ?_)
  · refine aw_iconst (pc := 27) (v := (-1)) dX5_off_27 (by decide) ?_
    exact aw_ret_i (pc := 28) rfl rfl rfl dX5_off_28
  refine aw_aload_n (pc := 9) dX5_off_9 rfl rfl ?_
  refine aw_iload_n (pc := 10) dX5_off_10 rfl rfl ?_
  refine aw_cVI (pc := 11) (st := []) (xX5_isPoint a3 σ2) (atM0 _) rfl ckX5_135 ⟨rfl, rfl, by decide, by decide⟩ (Nat.le_of_ble_eq_true rfl) dX5_off_11 rfl (fun r3 σ4 => ?_)
  refine aw_if_eq (pc := 14) (tgt := 27) dX5_off_14 (by decide) (fun _ => ?_) (fun _ => ?_)
  · refine aw_iconst (pc := 27) (v := (-1)) dX5_off_27 (by decide) ?_
    exact aw_ret_i (pc := 28) rfl rfl rfl dX5_off_28
  refine aw_aload_n (pc := 17) dX5_off_17 rfl rfl ?_
  refine aw_iload_n (pc := 18) dX5_off_18 rfl rfl ?_
  refine aw_iload_n (pc := 19) dX5_off_19 rfl rfl ?_
  refine aw_iload_n (pc := 20) dX5_off_20 rfl rfl ?_
  refine aw_cVI (pc := 21) (st := []) (xX5_offOf a1 a2 a3 σ4) (atM0 _) rfl ckX5_150 ⟨rfl, rfl, by decide, by decide⟩ (Nat.le_of_ble_eq_true rfl) dX5_off_21 rfl (fun r5 σ6 => ?_)
  refine aw_goto (pc := 24) (tgt := 28) dX5_off_24 (by decide) ?_
  exact aw_ret_i (pc := 28) rfl rfl rfl dX5_off_28
abbrev rmX5_step : Room := { frames := 0, cells := 0, slots := 0, locals := 0 }
noncomputable def fX5_step (a1 : Int32) (a2 : Int32) (a3 : Int32) (a4 : Int32) (σ : ST) : Option (Int32 × ST) :=
  if ib ((150 * a2) + a4) 22500 = true then bindv (σ.1 15 ((150 * a2) + a4).toNatClampNeg) (fun v1 => if ib ((20 * (σ.1 0 31)) + a3) 120 = true then if ib ((20 * (σ.1 0 31)) + a1) 120 = true then bindv ((σ.1 11 ((20 * (σ.1 0 31)) + a3).toNatClampNeg) - (σ.1 11 ((20 * (σ.1 0 31)) + a1).toNatClampNeg)) (fun v2 => if ((4 * (σ.1 0 16)) * v2) < v1 then (some (1000000000, σ)) else (some ((v1 / 4), σ))) else none else none) else none
set_option maxRecDepth 10000 in
theorem xX5_step (a1 : Int32) (a2 : Int32) (a3 : Int32) (a4 : Int32) (σ : ST) : MS wlM yX5_step cX5_step 7 (some .int) rmX5_step emI [.inr (some 0), .inl a1, .inl a2, .inl a3, .inl a4] σ (fX5_step a1 a2 a3 a4 σ) := by
  refine MS.of (by decide +kernel) (Nat.le_of_ble_eq_true rfl) ?_
  show AW wlM yX5_step cX5_step 7 (some .int) rmX5_step emI (fX5_step a1 a2 a3 a4 σ) 0 [some (.inr (some 0)), some (.inl a1), some (.inl a2), some (.inl a3), some (.inl a4), none, none] [] σ
  unfold fX5_step
  refine aw_aload_n (pc := 0) dX5_step_0 rfl rfl ?_
  refine aw_get (pc := 1) (v := .inr (some 15)) foX5_60 (atM0 _) rfl dX5_step_1 ?_
  refine aw_sipush (pc := 4) (v := 150) dX5_step_4 (by decide) ?_
  refine aw_iload_n (pc := 7) dX5_step_7 rfl rfl ?_
  refine aw_imul (pc := 8) dX5_step_8 ?_
  refine aw_iload (pc := 9) dX5_step_9 rfl ?_
  refine aw_iadd (pc := 11) dX5_step_11 ?_
  refine aw_iald' (pc := 12) (atM15 _) dX5_step_12 ?_
  refine aw_stB (pc := 13) (Lf := fun v1 => [some (.inr (some 0)), some (.inl a1), some (.inl a2), some (.inl a3), some (.inl a4), some (.inl v1), none]) dX5_step_13 (by decide) (fun _ => rfl) (fun v1 => ?_)
  refine aw_aload_n (pc := 15) dX5_step_15 rfl rfl ?_
  refine aw_get (pc := 16) (v := .inr (some 11)) foX5_41 (atM0 _) rfl dX5_step_16 ?_
  refine aw_bipush (pc := 19) (v := 20) dX5_step_19 (by decide) ?_
  refine aw_aload_n (pc := 21) dX5_step_21 rfl rfl ?_
  refine aw_get (pc := 22) (v := .inl (σ.1 0 31)) foX5_147 (atM0 _) rfl dX5_step_22 ?_
  refine aw_imul (pc := 25) dX5_step_25 ?_
  refine aw_iload_n (pc := 26) dX5_step_26 rfl rfl ?_
  refine aw_iadd (pc := 27) dX5_step_27 ?_
  refine aw_iald' (pc := 28) (atM11 _) dX5_step_28 ?_
  refine aw_aload_n (pc := 29) dX5_step_29 rfl rfl ?_
  refine aw_get (pc := 30) (v := .inr (some 11)) foX5_41 (atM0 _) rfl dX5_step_30 ?_
  refine aw_bipush (pc := 33) (v := 20) dX5_step_33 (by decide) ?_
  refine aw_aload_n (pc := 35) dX5_step_35 rfl rfl ?_
  refine aw_get (pc := 36) (v := .inl (σ.1 0 31)) foX5_147 (atM0 _) rfl dX5_step_36 ?_
  refine aw_imul (pc := 39) dX5_step_39 ?_
  refine aw_iload_n (pc := 40) dX5_step_40 rfl rfl ?_
  refine aw_iadd (pc := 41) dX5_step_41 ?_
  refine aw_iald' (pc := 42) (atM11 _) dX5_step_42 ?_
  refine aw_isub (pc := 43) dX5_step_43 ?_
  refine aw_stB (pc := 44) (Lf := fun v2 => [some (.inr (some 0)), some (.inl a1), some (.inl a2), some (.inl a3), some (.inl a4), some (.inl v1), some (.inl v2)]) dX5_step_44 (by decide) (fun _ => rfl) (fun v2 => ?_)
  refine aw_iload (pc := 46) dX5_step_46 rfl ?_
  refine aw_iconst (pc := 48) (v := 4) dX5_step_48 (by decide) ?_
  refine aw_aload_n (pc := 49) dX5_step_49 rfl rfl ?_
  refine aw_get (pc := 50) (v := .inl (σ.1 0 16)) foX5_50 (atM0 _) rfl dX5_step_50 ?_
  refine aw_imul (pc := 53) dX5_step_53 ?_
  refine aw_iload (pc := 54) dX5_step_54 rfl ?_
  refine aw_imul (pc := 56) dX5_step_56 ?_
  refine aw_icmp_gt (pc := 57) (tgt := 67) dX5_step_57 (by decide) (fun _ => ?_) (fun _ => ?_)
  · refine aw_ldc (pc := 67) lcX5_108 dX5_step_67 ?_
    exact aw_ret_i (pc := 69) rfl rfl rfl dX5_step_69
  refine aw_iload (pc := 60) dX5_step_60 rfl ?_
  refine aw_iconst (pc := 62) (v := 4) dX5_step_62 (by decide) ?_
  refine aw_idiv (pc := 63) dX5_step_63 (by decide) ?_
  refine aw_goto (pc := 64) (tgt := 69) dX5_step_64 (by decide) ?_
  exact aw_ret_i (pc := 69) rfl rfl rfl dX5_step_69
abbrev rmX5_behind : Room := { frames := 1, cells := 0, slots := 0, locals := 26 }
noncomputable def fX5_behind_J174 (k59 : Int32 → Int32 → Int32 → Int32 → Int32 → Int32 → ST → Option (Int32 × ST)) (k69 : Int32 → Int32 → Int32 → Int32 → Int32 → Int32 → Int32 → ST → Option (Int32 × ST)) (l1 : Int32) (l2 : Int32) (l3 : Int32) (l6 : Int32) (l8 : Int32) (l9 : Int32) (l10 : Int32) (σ : ST) : Option (Int32 × ST) :=
  bindv (l10 + 1) (fun v6 => k69 l1 l2 l3 l6 l8 l9 v6 σ)
set_option maxRecDepth 10000 in
theorem xX5_behind_J174 (k59 : Int32 → Int32 → Int32 → Int32 → Int32 → Int32 → ST → Option (Int32 × ST)) (k69 : Int32 → Int32 → Int32 → Int32 → Int32 → Int32 → Int32 → ST → Option (Int32 × ST)) (hk59 : ∀ (l1 : Int32) (l2 : Int32) (l3 : Int32) (l6 : Int32) (l8 : Int32) (l9 : Int32) (σ : ST), AW wlM yX5_behind cX5_behind 14 (some .int) rmX5_behind emI (k59 l1 l2 l3 l6 l8 l9 σ) 59 [some (.inr (some 0)), some (.inl l1), some (.inl l2), some (.inl l3), none, none, some (.inl l6), none, some (.inl l8), some (.inl l9), none, none, none, none] [] σ) (hk69 : ∀ (l1 : Int32) (l2 : Int32) (l3 : Int32) (l6 : Int32) (l8 : Int32) (l9 : Int32) (l10 : Int32) (σ : ST), AW wlM yX5_behind cX5_behind 14 (some .int) rmX5_behind emI (k69 l1 l2 l3 l6 l8 l9 l10 σ) 69 [some (.inr (some 0)), some (.inl l1), some (.inl l2), some (.inl l3), none, none, some (.inl l6), none, some (.inl l8), some (.inl l9), some (.inl l10), none, none, none] [] σ) (l1 : Int32) (l2 : Int32) (l3 : Int32) (l6 : Int32) (l8 : Int32) (l9 : Int32) (l10 : Int32) (σ : ST) : AW wlM yX5_behind cX5_behind 14 (some .int) rmX5_behind emI (fX5_behind_J174 k59 k69 l1 l2 l3 l6 l8 l9 l10 σ) 174 [some (.inr (some 0)), some (.inl l1), some (.inl l2), some (.inl l3), none, none, some (.inl l6), none, some (.inl l8), some (.inl l9), some (.inl l10), none, none, none] [] σ := by
  unfold fX5_behind_J174
  refine aw_iincB (pc := 174) (v := 1) (Lf := fun v6 => [some (.inr (some 0)), some (.inl l1), some (.inl l2), some (.inl l3), none, none, some (.inl l6), none, some (.inl l8), some (.inl l9), some (.inl v6), none, none, none]) dX5_behind_174 rfl (by decide) (by decide) (fun _ => rfl) (fun v6 => ?_)
  refine aw_goto (pc := 177) (tgt := 69) dX5_behind_177 (by decide) ?_
  exact aw_wk (wk_same (wk_same (wk_same (wk_same (wk_none (wk_none (wk_same (wk_none (wk_same (wk_same (wk_same (wk_none (wk_none (wk_none wk_nil)))))))))))))) (hk69 l1 l2 l3 l6 l8 l9 v6 σ)
noncomputable def fX5_behind_J172 (k59 : Int32 → Int32 → Int32 → Int32 → Int32 → Int32 → ST → Option (Int32 × ST)) (k69 : Int32 → Int32 → Int32 → Int32 → Int32 → Int32 → Int32 → ST → Option (Int32 × ST)) (l1 : Int32) (l2 : Int32) (l3 : Int32) (l6 : Int32) (l9 : Int32) (l10 : Int32) (s0 : Int32) (σ : ST) : Option (Int32 × ST) :=
  fX5_behind_J174 k59 k69 l1 l2 l3 l6 s0 l9 l10 σ
set_option maxRecDepth 10000 in
theorem xX5_behind_J172 (k59 : Int32 → Int32 → Int32 → Int32 → Int32 → Int32 → ST → Option (Int32 × ST)) (k69 : Int32 → Int32 → Int32 → Int32 → Int32 → Int32 → Int32 → ST → Option (Int32 × ST)) (hk59 : ∀ (l1 : Int32) (l2 : Int32) (l3 : Int32) (l6 : Int32) (l8 : Int32) (l9 : Int32) (σ : ST), AW wlM yX5_behind cX5_behind 14 (some .int) rmX5_behind emI (k59 l1 l2 l3 l6 l8 l9 σ) 59 [some (.inr (some 0)), some (.inl l1), some (.inl l2), some (.inl l3), none, none, some (.inl l6), none, some (.inl l8), some (.inl l9), none, none, none, none] [] σ) (hk69 : ∀ (l1 : Int32) (l2 : Int32) (l3 : Int32) (l6 : Int32) (l8 : Int32) (l9 : Int32) (l10 : Int32) (σ : ST), AW wlM yX5_behind cX5_behind 14 (some .int) rmX5_behind emI (k69 l1 l2 l3 l6 l8 l9 l10 σ) 69 [some (.inr (some 0)), some (.inl l1), some (.inl l2), some (.inl l3), none, none, some (.inl l6), none, some (.inl l8), some (.inl l9), some (.inl l10), none, none, none] [] σ) (l1 : Int32) (l2 : Int32) (l3 : Int32) (l6 : Int32) (l9 : Int32) (l10 : Int32) (s0 : Int32) (σ : ST) : AW wlM yX5_behind cX5_behind 14 (some .int) rmX5_behind emI (fX5_behind_J172 k59 k69 l1 l2 l3 l6 l9 l10 s0 σ) 172 [some (.inr (some 0)), some (.inl l1), some (.inl l2), some (.inl l3), none, none, some (.inl l6), none, none, some (.inl l9), some (.inl l10), none, none, none] [.inl s0] σ := by
  unfold fX5_behind_J172
  refine aw_st (pc := 172) (L' := [some (.inr (some 0)), some (.inl l1), some (.inl l2), some (.inl l3), none, none, some (.inl l6), none, some (.inl s0), some (.inl l9), some (.inl l10), none, none, none]) dX5_behind_172 (by decide) rfl ?_
  exact aw_wk (wk_same (wk_same (wk_same (wk_same (wk_none (wk_none (wk_same (wk_none (wk_same (wk_same (wk_same (wk_none (wk_none (wk_none wk_nil)))))))))))))) (xX5_behind_J174 k59 k69 hk59 hk69 l1 l2 l3 l6 s0 l9 l10 σ)
noncomputable def fX5_behind_J125 (k59 : Int32 → Int32 → Int32 → Int32 → Int32 → Int32 → ST → Option (Int32 × ST)) (k69 : Int32 → Int32 → Int32 → Int32 → Int32 → Int32 → Int32 → ST → Option (Int32 × ST)) (l1 : Int32) (l2 : Int32) (l3 : Int32) (l6 : Int32) (l8 : Int32) (l9 : Int32) (l10 : Int32) (l11 : Int32) (s0 : Int32) (σ : ST) : Option (Int32 × ST) :=
  if 1000000000 ≤ l11 then (fX5_behind_J174 k59 k69 l1 l2 l3 l6 l8 l9 l10 σ) else (if 1000000000 ≤ s0 then (fX5_behind_J174 k59 k69 l1 l2 l3 l6 l8 l9 l10 σ) else (bindv ((((σ.1 0 17) * (l9 - l1)) + s0) + l11) (fun v7 => if l8 ≤ v7 then (fX5_behind_J172 k59 k69 l1 l2 l3 l6 l9 l10 l8 σ) else (fX5_behind_J172 k59 k69 l1 l2 l3 l6 l9 l10 v7 σ))))
set_option maxRecDepth 10000 in
theorem xX5_behind_J125 (k59 : Int32 → Int32 → Int32 → Int32 → Int32 → Int32 → ST → Option (Int32 × ST)) (k69 : Int32 → Int32 → Int32 → Int32 → Int32 → Int32 → Int32 → ST → Option (Int32 × ST)) (hk59 : ∀ (l1 : Int32) (l2 : Int32) (l3 : Int32) (l6 : Int32) (l8 : Int32) (l9 : Int32) (σ : ST), AW wlM yX5_behind cX5_behind 14 (some .int) rmX5_behind emI (k59 l1 l2 l3 l6 l8 l9 σ) 59 [some (.inr (some 0)), some (.inl l1), some (.inl l2), some (.inl l3), none, none, some (.inl l6), none, some (.inl l8), some (.inl l9), none, none, none, none] [] σ) (hk69 : ∀ (l1 : Int32) (l2 : Int32) (l3 : Int32) (l6 : Int32) (l8 : Int32) (l9 : Int32) (l10 : Int32) (σ : ST), AW wlM yX5_behind cX5_behind 14 (some .int) rmX5_behind emI (k69 l1 l2 l3 l6 l8 l9 l10 σ) 69 [some (.inr (some 0)), some (.inl l1), some (.inl l2), some (.inl l3), none, none, some (.inl l6), none, some (.inl l8), some (.inl l9), some (.inl l10), none, none, none] [] σ) (l1 : Int32) (l2 : Int32) (l3 : Int32) (l6 : Int32) (l8 : Int32) (l9 : Int32) (l10 : Int32) (l11 : Int32) (s0 : Int32) (σ : ST) : AW wlM yX5_behind cX5_behind 14 (some .int) rmX5_behind emI (fX5_behind_J125 k59 k69 l1 l2 l3 l6 l8 l9 l10 l11 s0 σ) 125 [some (.inr (some 0)), some (.inl l1), some (.inl l2), some (.inl l3), none, none, some (.inl l6), none, some (.inl l8), some (.inl l9), some (.inl l10), some (.inl l11), none, none] [.inl s0] σ := by
  unfold fX5_behind_J125
  refine aw_st (pc := 125) (L' := [some (.inr (some 0)), some (.inl l1), some (.inl l2), some (.inl l3), none, none, some (.inl l6), none, some (.inl l8), some (.inl l9), some (.inl l10), some (.inl l11), some (.inl s0), none]) dX5_behind_125 (by decide) rfl ?_
  refine aw_iload (pc := 127) dX5_behind_127 rfl ?_
  refine aw_ldc (pc := 129) lcX5_108 dX5_behind_129 ?_
  refine aw_icmp_ge (pc := 131) (tgt := 174) dX5_behind_131 (by decide) (fun _ => ?_) (fun _ => ?_)
  · exact aw_wk (wk_same (wk_same (wk_same (wk_same (wk_none (wk_none (wk_same (wk_none (wk_same (wk_same (wk_same (wk_none (wk_none (wk_none wk_nil)))))))))))))) (xX5_behind_J174 k59 k69 hk59 hk69 l1 l2 l3 l6 l8 l9 l10 σ)
  refine aw_iload (pc := 134) dX5_behind_134 rfl ?_
  refine aw_ldc (pc := 136) lcX5_108 dX5_behind_136 ?_
  refine aw_icmp_ge (pc := 138) (tgt := 174) dX5_behind_138 (by decide) (fun _ => ?_) (fun _ => ?_)
  · exact aw_wk (wk_same (wk_same (wk_same (wk_same (wk_none (wk_none (wk_same (wk_none (wk_same (wk_same (wk_same (wk_none (wk_none (wk_none wk_nil)))))))))))))) (xX5_behind_J174 k59 k69 hk59 hk69 l1 l2 l3 l6 l8 l9 l10 σ)
  refine aw_aload_n (pc := 141) dX5_behind_141 rfl rfl ?_
  refine aw_get (pc := 142) (v := .inl (σ.1 0 17)) foX5_54 (atM0 _) rfl dX5_behind_142 ?_
  refine aw_iload (pc := 145) dX5_behind_145 rfl ?_
  refine aw_iload_n (pc := 147) dX5_behind_147 rfl rfl ?_
  refine aw_isub (pc := 148) dX5_behind_148 ?_
  refine aw_imul (pc := 149) dX5_behind_149 ?_
  refine aw_iload (pc := 150) dX5_behind_150 rfl ?_
  refine aw_iadd (pc := 152) dX5_behind_152 ?_
  refine aw_iload (pc := 153) dX5_behind_153 rfl ?_
  refine aw_iadd (pc := 155) dX5_behind_155 ?_
  refine aw_stB (pc := 156) (Lf := fun v7 => [some (.inr (some 0)), some (.inl l1), some (.inl l2), some (.inl l3), none, none, some (.inl l6), none, some (.inl l8), some (.inl l9), some (.inl l10), some (.inl l11), some (.inl s0), some (.inl v7)]) dX5_behind_156 (by decide) (fun _ => rfl) (fun v7 => ?_)
  refine aw_iload (pc := 158) dX5_behind_158 rfl ?_
  refine aw_iload (pc := 160) dX5_behind_160 rfl ?_
  refine aw_icmp_ge (pc := 162) (tgt := 170) dX5_behind_162 (by decide) (fun _ => ?_) (fun _ => ?_)
  · refine aw_iload (pc := 170) dX5_behind_170 rfl ?_
    exact aw_wk (wk_same (wk_same (wk_same (wk_same (wk_none (wk_none (wk_same (wk_none (wk_none (wk_same (wk_same (wk_none (wk_none (wk_none wk_nil)))))))))))))) (xX5_behind_J172 k59 k69 hk59 hk69 l1 l2 l3 l6 l9 l10 l8 σ)
  refine aw_iload (pc := 165) dX5_behind_165 rfl ?_
  refine aw_goto (pc := 167) (tgt := 172) dX5_behind_167 (by decide) ?_
  exact aw_wk (wk_same (wk_same (wk_same (wk_same (wk_none (wk_none (wk_same (wk_none (wk_none (wk_same (wk_same (wk_none (wk_none (wk_none wk_nil)))))))))))))) (xX5_behind_J172 k59 k69 hk59 hk69 l1 l2 l3 l6 l9 l10 v7 σ)
noncomputable def fX5_behind_B69 (k59 : Int32 → Int32 → Int32 → Int32 → Int32 → Int32 → ST → Option (Int32 × ST)) (k69 : Int32 → Int32 → Int32 → Int32 → Int32 → Int32 → Int32 → ST → Option (Int32 × ST)) (l1 : Int32) (l2 : Int32) (l3 : Int32) (l6 : Int32) (l8 : Int32) (l9 : Int32) (l10 : Int32) (σ : ST) : Option (Int32 × ST) :=
  if ib l9 20 = true then if (σ.1 20 l9.toNatClampNeg) ≤ l10 then (bindv (l9 + 1) (fun v2 => k59 l1 l2 l3 l6 l8 v2 σ)) else (if ib ((10 * l9) + l10) 200 = true then bindv (σ.1 21 ((10 * l9) + l10).toNatClampNeg) (fun v3 => if 0 ≤ l2 then (if ib ((10 * l9) + l10) 200 = true then cb (fX5_step l2 l3 l9 (σ.1 19 ((10 * l9) + l10).toNatClampNeg) σ) (fun r4 σ5 => fX5_behind_J125 k59 k69 l1 l2 l3 l6 l8 l9 l10 v3 r4 σ5) else none) else (fX5_behind_J125 k59 k69 l1 l2 l3 l6 l8 l9 l10 v3 0 σ)) else none) else none
set_option maxRecDepth 10000 in
theorem xX5_behind_B69 (k59 : Int32 → Int32 → Int32 → Int32 → Int32 → Int32 → ST → Option (Int32 × ST)) (k69 : Int32 → Int32 → Int32 → Int32 → Int32 → Int32 → Int32 → ST → Option (Int32 × ST)) (hk59 : ∀ (l1 : Int32) (l2 : Int32) (l3 : Int32) (l6 : Int32) (l8 : Int32) (l9 : Int32) (σ : ST), AW wlM yX5_behind cX5_behind 14 (some .int) rmX5_behind emI (k59 l1 l2 l3 l6 l8 l9 σ) 59 [some (.inr (some 0)), some (.inl l1), some (.inl l2), some (.inl l3), none, none, some (.inl l6), none, some (.inl l8), some (.inl l9), none, none, none, none] [] σ) (hk69 : ∀ (l1 : Int32) (l2 : Int32) (l3 : Int32) (l6 : Int32) (l8 : Int32) (l9 : Int32) (l10 : Int32) (σ : ST), AW wlM yX5_behind cX5_behind 14 (some .int) rmX5_behind emI (k69 l1 l2 l3 l6 l8 l9 l10 σ) 69 [some (.inr (some 0)), some (.inl l1), some (.inl l2), some (.inl l3), none, none, some (.inl l6), none, some (.inl l8), some (.inl l9), some (.inl l10), none, none, none] [] σ) (l1 : Int32) (l2 : Int32) (l3 : Int32) (l6 : Int32) (l8 : Int32) (l9 : Int32) (l10 : Int32) (σ : ST) : AW wlM yX5_behind cX5_behind 14 (some .int) rmX5_behind emI (fX5_behind_B69 k59 k69 l1 l2 l3 l6 l8 l9 l10 σ) 69 [some (.inr (some 0)), some (.inl l1), some (.inl l2), some (.inl l3), none, none, some (.inl l6), none, some (.inl l8), some (.inl l9), some (.inl l10), none, none, none] [] σ := by
  unfold fX5_behind_B69
  refine aw_iload (pc := 69) dX5_behind_69 rfl ?_
  refine aw_aload_n (pc := 71) dX5_behind_71 rfl rfl ?_
  refine aw_get (pc := 72) (v := .inr (some 20)) foX5_75 (atM0 _) rfl dX5_behind_72 ?_
  refine aw_iload (pc := 75) dX5_behind_75 rfl ?_
  refine aw_iald' (pc := 77) (atM20 _) dX5_behind_77 ?_
  refine aw_icmp_ge (pc := 78) (tgt := 180) dX5_behind_78 (by decide) (fun _ => ?_) (fun _ => ?_)
  · refine aw_iincB (pc := 180) (v := 1) (Lf := fun v2 => [some (.inr (some 0)), some (.inl l1), some (.inl l2), some (.inl l3), none, none, some (.inl l6), none, some (.inl l8), some (.inl v2), some (.inl l10), none, none, none]) dX5_behind_180 rfl (by decide) (by decide) (fun _ => rfl) (fun v2 => ?_)
    refine aw_goto (pc := 183) (tgt := 59) dX5_behind_183 (by decide) ?_
    exact aw_wk (wk_same (wk_same (wk_same (wk_same (wk_none (wk_none (wk_same (wk_none (wk_same (wk_same (wk_none (wk_none (wk_none (wk_none wk_nil)))))))))))))) (hk59 l1 l2 l3 l6 l8 v2 σ)
  refine aw_aload_n (pc := 81) dX5_behind_81 rfl rfl ?_
  refine aw_get (pc := 82) (v := .inr (some 21)) foX5_78 (atM0 _) rfl dX5_behind_82 ?_
  refine aw_bipush (pc := 85) (v := 10) dX5_behind_85 (by decide) ?_
  refine aw_iload (pc := 87) dX5_behind_87 rfl ?_
  refine aw_imul (pc := 89) dX5_behind_89 ?_
  refine aw_iload (pc := 90) dX5_behind_90 rfl ?_
  refine aw_iadd (pc := 92) dX5_behind_92 ?_
  refine aw_iald' (pc := 93) (atM21 _) dX5_behind_93 ?_
  refine aw_stB (pc := 94) (Lf := fun v3 => [some (.inr (some 0)), some (.inl l1), some (.inl l2), some (.inl l3), none, none, some (.inl l6), none, some (.inl l8), some (.inl l9), some (.inl l10), some (.inl v3), none, none]) dX5_behind_94 (by decide) (fun _ => rfl) (fun v3 => ?_)
  refine aw_iload_n (pc := 96) dX5_behind_96 rfl rfl ?_
  refine aw_if_ge (pc := 97) (tgt := 104) dX5_behind_97 (by decide) (fun _ => ?_) (fun _ => ?_)
  · refine aw_aload_n (pc := 104) dX5_behind_104 rfl rfl ?_
    refine aw_iload_n (pc := 105) dX5_behind_105 rfl rfl ?_
    refine aw_iload_n (pc := 106) dX5_behind_106 rfl rfl ?_
    refine aw_iload (pc := 107) dX5_behind_107 rfl ?_
    refine aw_aload_n (pc := 109) dX5_behind_109 rfl rfl ?_
    refine aw_get (pc := 110) (v := .inr (some 19)) foX5_72 (atM0 _) rfl dX5_behind_110 ?_
    refine aw_bipush (pc := 113) (v := 10) dX5_behind_113 (by decide) ?_
    refine aw_iload (pc := 115) dX5_behind_115 rfl ?_
    refine aw_imul (pc := 117) dX5_behind_117 ?_
    refine aw_iload (pc := 118) dX5_behind_118 rfl ?_
    refine aw_iadd (pc := 120) dX5_behind_120 ?_
    refine aw_iald' (pc := 121) (atM19 _) dX5_behind_121 ?_
    refine aw_cVI (pc := 122) (st := []) (xX5_step l2 l3 l9 (σ.1 19 ((10 * l9) + l10).toNatClampNeg) σ) (atM0 _) rfl ckX5_161 ⟨rfl, rfl, by decide, by decide⟩ (Nat.le_of_ble_eq_true rfl) dX5_behind_122 rfl (fun r4 σ5 => ?_)
    exact aw_wk (wk_same (wk_same (wk_same (wk_same (wk_none (wk_none (wk_same (wk_none (wk_same (wk_same (wk_same (wk_same (wk_none (wk_none wk_nil)))))))))))))) (xX5_behind_J125 k59 k69 hk59 hk69 l1 l2 l3 l6 l8 l9 l10 v3 r4 σ5)
  refine aw_iconst (pc := 100) (v := 0) dX5_behind_100 (by decide) ?_
  refine aw_goto (pc := 101) (tgt := 125) dX5_behind_101 (by decide) ?_
  exact aw_wk (wk_same (wk_same (wk_same (wk_same (wk_none (wk_none (wk_same (wk_none (wk_same (wk_same (wk_same (wk_same (wk_none (wk_none wk_nil)))))))))))))) (xX5_behind_J125 k59 k69 hk59 hk69 l1 l2 l3 l6 l8 l9 l10 v3 0 σ)
noncomputable def fX5_behind_L69 (k59 : Int32 → Int32 → Int32 → Int32 → Int32 → Int32 → ST → Option (Int32 × ST)) (n : Nat) (l1 : Int32) (l2 : Int32) (l3 : Int32) (l6 : Int32) (l8 : Int32) (l9 : Int32) (l10 : Int32) (σ : ST) : Option (Int32 × ST) := loopN (α := Int32 × Int32 × Int32 × Int32 × Int32 × Int32 × Int32 × ST) (fun k a => fX5_behind_B69 k59 (fun l1 l2 l3 l6 l8 l9 l10 σ => k (l1, l2, l3, l6, l8, l9, l10, σ)) a.1 a.2.1 a.2.2.1 a.2.2.2.1 a.2.2.2.2.1 a.2.2.2.2.2.1 a.2.2.2.2.2.2.1 a.2.2.2.2.2.2.2) n (l1, l2, l3, l6, l8, l9, l10, σ)
theorem xX5_behind_L69 (k59 : Int32 → Int32 → Int32 → Int32 → Int32 → Int32 → ST → Option (Int32 × ST)) (hk59 : ∀ (l1 : Int32) (l2 : Int32) (l3 : Int32) (l6 : Int32) (l8 : Int32) (l9 : Int32) (σ : ST), AW wlM yX5_behind cX5_behind 14 (some .int) rmX5_behind emI (k59 l1 l2 l3 l6 l8 l9 σ) 59 [some (.inr (some 0)), some (.inl l1), some (.inl l2), some (.inl l3), none, none, some (.inl l6), none, some (.inl l8), some (.inl l9), none, none, none, none] [] σ) (n : Nat) (l1 : Int32) (l2 : Int32) (l3 : Int32) (l6 : Int32) (l8 : Int32) (l9 : Int32) (l10 : Int32) (σ : ST) : AW wlM yX5_behind cX5_behind 14 (some .int) rmX5_behind emI (fX5_behind_L69 k59 n l1 l2 l3 l6 l8 l9 l10 σ) 69 [some (.inr (some 0)), some (.inl l1), some (.inl l2), some (.inl l3), none, none, some (.inl l6), none, some (.inl l8), some (.inl l9), some (.inl l10), none, none, none] [] σ :=
  aw_loop (α := Int32 × Int32 × Int32 × Int32 × Int32 × Int32 × Int32 × ST) (Lf := fun a => [some (.inr (some 0)), some (.inl (a.1)), some (.inl (a.2.1)), some (.inl (a.2.2.1)), none, none, some (.inl (a.2.2.2.1)), none, some (.inl (a.2.2.2.2.1)), some (.inl (a.2.2.2.2.2.1)), some (.inl (a.2.2.2.2.2.2.1)), none, none, none]) (sf := fun a => a.2.2.2.2.2.2.2) (fun k hk a => by
    obtain ⟨l1, l2, l3, l6, l8, l9, l10, σ⟩ := a
    exact xX5_behind_B69 k59 (fun l1 l2 l3 l6 l8 l9 l10 σ => k (l1, l2, l3, l6, l8, l9, l10, σ)) hk59 (fun l1 l2 l3 l6 l8 l9 l10 σ => hk (l1, l2, l3, l6, l8, l9, l10, σ)) l1 l2 l3 l6 l8 l9 l10 σ) n (l1, l2, l3, l6, l8, l9, l10, σ)
noncomputable def fX5_behind_B59 (k59 : Int32 → Int32 → Int32 → Int32 → Int32 → Int32 → ST → Option (Int32 × ST)) (l1 : Int32) (l2 : Int32) (l3 : Int32) (l6 : Int32) (l8 : Int32) (l9 : Int32) (σ : ST) : Option (Int32 × ST) :=
  if l6 ≤ l9 then (some (l8, σ)) else (fX5_behind_L69 k59 FU l1 l2 l3 l6 l8 l9 0 σ)
set_option maxRecDepth 10000 in
theorem xX5_behind_B59 (k59 : Int32 → Int32 → Int32 → Int32 → Int32 → Int32 → ST → Option (Int32 × ST)) (hk59 : ∀ (l1 : Int32) (l2 : Int32) (l3 : Int32) (l6 : Int32) (l8 : Int32) (l9 : Int32) (σ : ST), AW wlM yX5_behind cX5_behind 14 (some .int) rmX5_behind emI (k59 l1 l2 l3 l6 l8 l9 σ) 59 [some (.inr (some 0)), some (.inl l1), some (.inl l2), some (.inl l3), none, none, some (.inl l6), none, some (.inl l8), some (.inl l9), none, none, none, none] [] σ) (l1 : Int32) (l2 : Int32) (l3 : Int32) (l6 : Int32) (l8 : Int32) (l9 : Int32) (σ : ST) : AW wlM yX5_behind cX5_behind 14 (some .int) rmX5_behind emI (fX5_behind_B59 k59 l1 l2 l3 l6 l8 l9 σ) 59 [some (.inr (some 0)), some (.inl l1), some (.inl l2), some (.inl l3), none, none, some (.inl l6), none, some (.inl l8), some (.inl l9), none, none, none, none] [] σ := by
  unfold fX5_behind_B59
  refine aw_iload (pc := 59) dX5_behind_59 rfl ?_
  refine aw_iload (pc := 61) dX5_behind_61 rfl ?_
  refine aw_icmp_ge (pc := 63) (tgt := 186) dX5_behind_63 (by decide) (fun _ => ?_) (fun _ => ?_)
  · refine aw_iload (pc := 186) dX5_behind_186 rfl ?_
    exact aw_ret_i (pc := 188) rfl rfl rfl dX5_behind_188
  refine aw_iconst (pc := 66) (v := 0) dX5_behind_66 (by decide) ?_
  refine aw_st (pc := 67) (L' := [some (.inr (some 0)), some (.inl l1), some (.inl l2), some (.inl l3), none, none, some (.inl l6), none, some (.inl l8), some (.inl l9), some (.inl 0), none, none, none]) dX5_behind_67 (by decide) rfl ?_
  exact aw_wk (wk_same (wk_same (wk_same (wk_same (wk_none (wk_none (wk_same (wk_none (wk_same (wk_same (wk_same (wk_none (wk_none (wk_none wk_nil)))))))))))))) (xX5_behind_L69 k59 hk59 FU l1 l2 l3 l6 l8 l9 0 σ)
noncomputable def fX5_behind_L59 (n : Nat) (l1 : Int32) (l2 : Int32) (l3 : Int32) (l6 : Int32) (l8 : Int32) (l9 : Int32) (σ : ST) : Option (Int32 × ST) := loopN (α := Int32 × Int32 × Int32 × Int32 × Int32 × Int32 × ST) (fun k a => fX5_behind_B59 (fun l1 l2 l3 l6 l8 l9 σ => k (l1, l2, l3, l6, l8, l9, σ)) a.1 a.2.1 a.2.2.1 a.2.2.2.1 a.2.2.2.2.1 a.2.2.2.2.2.1 a.2.2.2.2.2.2) n (l1, l2, l3, l6, l8, l9, σ)
theorem xX5_behind_L59 (n : Nat) (l1 : Int32) (l2 : Int32) (l3 : Int32) (l6 : Int32) (l8 : Int32) (l9 : Int32) (σ : ST) : AW wlM yX5_behind cX5_behind 14 (some .int) rmX5_behind emI (fX5_behind_L59 n l1 l2 l3 l6 l8 l9 σ) 59 [some (.inr (some 0)), some (.inl l1), some (.inl l2), some (.inl l3), none, none, some (.inl l6), none, some (.inl l8), some (.inl l9), none, none, none, none] [] σ :=
  aw_loop (α := Int32 × Int32 × Int32 × Int32 × Int32 × Int32 × ST) (Lf := fun a => [some (.inr (some 0)), some (.inl (a.1)), some (.inl (a.2.1)), some (.inl (a.2.2.1)), none, none, some (.inl (a.2.2.2.1)), none, some (.inl (a.2.2.2.2.1)), some (.inl (a.2.2.2.2.2.1)), none, none, none, none]) (sf := fun a => a.2.2.2.2.2.2) (fun k hk a => by
    obtain ⟨l1, l2, l3, l6, l8, l9, σ⟩ := a
    exact xX5_behind_B59 (fun l1 l2 l3 l6 l8 l9 σ => k (l1, l2, l3, l6, l8, l9, σ)) (fun l1 l2 l3 l6 l8 l9 σ => hk (l1, l2, l3, l6, l8, l9, σ)) l1 l2 l3 l6 l8 l9 σ) n (l1, l2, l3, l6, l8, l9, σ)
noncomputable def fX5_behind_J54 (l1 : Int32) (l2 : Int32) (l3 : Int32) (l6 : Int32) (s0 : Int32) (σ : ST) : Option (Int32 × ST) :=
  fX5_behind_L59 FU l1 l2 l3 l6 s0 l1 σ
set_option maxRecDepth 10000 in
theorem xX5_behind_J54 (l1 : Int32) (l2 : Int32) (l3 : Int32) (l6 : Int32) (s0 : Int32) (σ : ST) : AW wlM yX5_behind cX5_behind 14 (some .int) rmX5_behind emI (fX5_behind_J54 l1 l2 l3 l6 s0 σ) 54 [some (.inr (some 0)), some (.inl l1), some (.inl l2), some (.inl l3), none, none, some (.inl l6), none, none, none, none, none, none, none] [.inl s0] σ := by
  unfold fX5_behind_J54
  refine aw_st (pc := 54) (L' := [some (.inr (some 0)), some (.inl l1), some (.inl l2), some (.inl l3), none, none, some (.inl l6), none, some (.inl s0), none, none, none, none, none]) dX5_behind_54 (by decide) rfl ?_
  refine aw_iload_n (pc := 56) dX5_behind_56 rfl rfl ?_
  refine aw_st (pc := 57) (L' := [some (.inr (some 0)), some (.inl l1), some (.inl l2), some (.inl l3), none, none, some (.inl l6), none, some (.inl s0), some (.inl l1), none, none, none, none]) dX5_behind_57 (by decide) rfl ?_
  exact aw_wk (wk_same (wk_same (wk_same (wk_same (wk_none (wk_none (wk_same (wk_none (wk_same (wk_same (wk_none (wk_none (wk_none (wk_none wk_nil)))))))))))))) (xX5_behind_L59 FU l1 l2 l3 l6 s0 l1 σ)
noncomputable def fX5_behind_J33 (l1 : Int32) (l2 : Int32) (l3 : Int32) (l6 : Int32) (s0 : Int32) (σ : ST) : Option (Int32 × ST) :=
  if s0 = 0 then (fX5_behind_J54 l1 l2 l3 l6 1000000000 σ) else (fX5_behind_J54 l1 l2 l3 l6 ((σ.1 0 17) * (l6 - l1)) σ)
set_option maxRecDepth 10000 in
theorem xX5_behind_J33 (l1 : Int32) (l2 : Int32) (l3 : Int32) (l6 : Int32) (s0 : Int32) (σ : ST) : AW wlM yX5_behind cX5_behind 14 (some .int) rmX5_behind emI (fX5_behind_J33 l1 l2 l3 l6 s0 σ) 33 [some (.inr (some 0)), some (.inl l1), some (.inl l2), some (.inl l3), none, none, some (.inl l6), none, none, none, none, none, none, none] [.inl s0] σ := by
  unfold fX5_behind_J33
  refine aw_st (pc := 33) (L' := [some (.inr (some 0)), some (.inl l1), some (.inl l2), some (.inl l3), none, none, some (.inl l6), some (.inl s0), none, none, none, none, none, none]) dX5_behind_33 (by decide) rfl ?_
  refine aw_iload (pc := 35) dX5_behind_35 rfl ?_
  refine aw_if_eq (pc := 37) (tgt := 52) dX5_behind_37 (by decide) (fun _ => ?_) (fun _ => ?_)
  · refine aw_ldc (pc := 52) lcX5_108 dX5_behind_52 ?_
    exact aw_wk (wk_same (wk_same (wk_same (wk_same (wk_none (wk_none (wk_same (wk_none (wk_none (wk_none (wk_none (wk_none (wk_none (wk_none wk_nil)))))))))))))) (xX5_behind_J54 l1 l2 l3 l6 1000000000 σ)
  refine aw_aload_n (pc := 40) dX5_behind_40 rfl rfl ?_
  refine aw_get (pc := 41) (v := .inl (σ.1 0 17)) foX5_54 (atM0 _) rfl dX5_behind_41 ?_
  refine aw_iload (pc := 44) dX5_behind_44 rfl ?_
  refine aw_iload_n (pc := 46) dX5_behind_46 rfl rfl ?_
  refine aw_isub (pc := 47) dX5_behind_47 ?_
  refine aw_imul (pc := 48) dX5_behind_48 ?_
  refine aw_goto (pc := 49) (tgt := 54) dX5_behind_49 (by decide) ?_
  exact aw_wk (wk_same (wk_same (wk_same (wk_same (wk_none (wk_none (wk_same (wk_none (wk_none (wk_none (wk_none (wk_none (wk_none (wk_none wk_nil)))))))))))))) (xX5_behind_J54 l1 l2 l3 l6 ((σ.1 0 17) * (l6 - l1)) σ)
noncomputable def fX5_behind_J28 (l1 : Int32) (l2 : Int32) (l3 : Int32) (l6 : Int32) (σ : ST) : Option (Int32 × ST) :=
  fX5_behind_J33 l1 l2 l3 l6 1 σ
set_option maxRecDepth 10000 in
theorem xX5_behind_J28 (l1 : Int32) (l2 : Int32) (l3 : Int32) (l6 : Int32) (σ : ST) : AW wlM yX5_behind cX5_behind 14 (some .int) rmX5_behind emI (fX5_behind_J28 l1 l2 l3 l6 σ) 28 [some (.inr (some 0)), some (.inl l1), some (.inl l2), some (.inl l3), none, none, some (.inl l6), none, none, none, none, none, none, none] [] σ := by
  unfold fX5_behind_J28
  refine aw_iconst (pc := 28) (v := 1) dX5_behind_28 (by decide) ?_
  refine aw_goto (pc := 29) (tgt := 33) dX5_behind_29 (by decide) ?_
  exact aw_wk (wk_same (wk_same (wk_same (wk_same (wk_none (wk_none (wk_same (wk_none (wk_none (wk_none (wk_none (wk_none (wk_none (wk_none wk_nil)))))))))))))) (xX5_behind_J33 l1 l2 l3 l6 1 σ)
noncomputable def fX5_behind_J32 (l1 : Int32) (l2 : Int32) (l3 : Int32) (l6 : Int32) (σ : ST) : Option (Int32 × ST) :=
  fX5_behind_J33 l1 l2 l3 l6 0 σ
set_option maxRecDepth 10000 in
theorem xX5_behind_J32 (l1 : Int32) (l2 : Int32) (l3 : Int32) (l6 : Int32) (σ : ST) : AW wlM yX5_behind cX5_behind 14 (some .int) rmX5_behind emI (fX5_behind_J32 l1 l2 l3 l6 σ) 32 [some (.inr (some 0)), some (.inl l1), some (.inl l2), some (.inl l3), none, none, some (.inl l6), none, none, none, none, none, none, none] [] σ := by
  unfold fX5_behind_J32
  refine aw_iconst (pc := 32) (v := 0) dX5_behind_32 (by decide) ?_
  exact aw_wk (wk_same (wk_same (wk_same (wk_same (wk_none (wk_none (wk_same (wk_none (wk_none (wk_none (wk_none (wk_none (wk_none (wk_none wk_nil)))))))))))))) (xX5_behind_J33 l1 l2 l3 l6 0 σ)
noncomputable def fX5_behind (a1 : Int32) (a2 : Int32) (a3 : Int32) (a4 : Int32) (a5 : Int32) (σ : ST) : Option (Int32 × ST) :=
  if ib (σ.1 0 31) 6 = true then bindv (σ.1 13 (σ.1 0 31).toNatClampNeg) (fun v1 => if a4 < 0 then (fX5_behind_J28 a1 a2 a3 v1 σ) else (if a2 = a4 then (if a3 = a5 then (fX5_behind_J28 a1 a2 a3 v1 σ) else (fX5_behind_J32 a1 a2 a3 v1 σ)) else (fX5_behind_J32 a1 a2 a3 v1 σ))) else none
set_option maxRecDepth 10000 in
theorem xX5_behind (a1 : Int32) (a2 : Int32) (a3 : Int32) (a4 : Int32) (a5 : Int32) (σ : ST) : MS wlM yX5_behind cX5_behind 14 (some .int) rmX5_behind emI [.inr (some 0), .inl a1, .inl a2, .inl a3, .inl a4, .inl a5] σ (fX5_behind a1 a2 a3 a4 a5 σ) := by
  refine MS.of (by decide +kernel) (Nat.le_of_ble_eq_true rfl) ?_
  show AW wlM yX5_behind cX5_behind 14 (some .int) rmX5_behind emI (fX5_behind a1 a2 a3 a4 a5 σ) 0 [some (.inr (some 0)), some (.inl a1), some (.inl a2), some (.inl a3), some (.inl a4), some (.inl a5), none, none, none, none, none, none, none, none] [] σ
  unfold fX5_behind
  refine aw_aload_n (pc := 0) dX5_behind_0 rfl rfl ?_
  refine aw_get (pc := 1) (v := .inr (some 13)) foX5_47 (atM0 _) rfl dX5_behind_1 ?_
  refine aw_aload_n (pc := 4) dX5_behind_4 rfl rfl ?_
  refine aw_get (pc := 5) (v := .inl (σ.1 0 31)) foX5_147 (atM0 _) rfl dX5_behind_5 ?_
  refine aw_iald' (pc := 8) (atM13 _) dX5_behind_8 ?_
  refine aw_stB (pc := 9) (Lf := fun v1 => [some (.inr (some 0)), some (.inl a1), some (.inl a2), some (.inl a3), some (.inl a4), some (.inl a5), some (.inl v1), none, none, none, none, none, none, none]) dX5_behind_9 (by decide) (fun _ => rfl) (fun v1 => ?_)
  refine aw_iload (pc := 11) dX5_behind_11 rfl ?_
  refine aw_if_lt (pc := 13) (tgt := 28) dX5_behind_13 (by decide) (fun _ => ?_) (fun _ => ?_)
  · exact aw_wk (wk_same (wk_same (wk_same (wk_same (wk_none (wk_none (wk_same (wk_none (wk_none (wk_none (wk_none (wk_none (wk_none (wk_none wk_nil)))))))))))))) (xX5_behind_J28 a1 a2 a3 v1 σ)
  refine aw_iload_n (pc := 16) dX5_behind_16 rfl rfl ?_
  refine aw_iload (pc := 17) dX5_behind_17 rfl ?_
  refine aw_icmp_ne (pc := 19) (tgt := 32) dX5_behind_19 (by decide) (fun _ => ?_) (fun _ => ?_)
  · refine aw_iload_n (pc := 22) dX5_behind_22 rfl rfl ?_
    refine aw_iload (pc := 23) dX5_behind_23 rfl ?_
    refine aw_icmp_ne (pc := 25) (tgt := 32) dX5_behind_25 (by decide) (fun _ => ?_) (fun _ => ?_)
    · exact aw_wk (wk_same (wk_same (wk_same (wk_same (wk_none (wk_none (wk_same (wk_none (wk_none (wk_none (wk_none (wk_none (wk_none (wk_none wk_nil)))))))))))))) (xX5_behind_J28 a1 a2 a3 v1 σ)
    exact aw_wk (wk_same (wk_same (wk_same (wk_same (wk_none (wk_none (wk_same (wk_none (wk_none (wk_none (wk_none (wk_none (wk_none (wk_none wk_nil)))))))))))))) (xX5_behind_J32 a1 a2 a3 v1 σ)
  exact aw_wk (wk_same (wk_same (wk_same (wk_same (wk_none (wk_none (wk_same (wk_none (wk_none (wk_none (wk_none (wk_none (wk_none (wk_none wk_nil)))))))))))))) (xX5_behind_J32 a1 a2 a3 v1 σ)
abbrev rmX5_findRow : Room := { frames := 2, cells := 0, slots := 0, locals := 59 }
noncomputable def fX5_findRow_J391 (k185 : Int32 → Int32 → Int32 → Int32 → Int32 → ST → Option (Unit × ST)) (l3 : Int32) (l4 : Int32) (l5 : Int32) (l6 : Int32) (l7 : Int32) (σ : ST) : Option (Unit × ST) :=
  bindv (l7 + 1) (fun v9 => k185 l3 l4 l5 l6 v9 σ)
set_option maxRecDepth 10000 in
theorem xX5_findRow_J391 (k185 : Int32 → Int32 → Int32 → Int32 → Int32 → ST → Option (Unit × ST)) (hk185 : ∀ (l3 : Int32) (l4 : Int32) (l5 : Int32) (l6 : Int32) (l7 : Int32) (σ : ST), AW wlM yX5_findRow cX5_findRow 11 none rmX5_findRow emV (k185 l3 l4 l5 l6 l7 σ) 185 [some (.inr (some 0)), none, none, some (.inl l3), some (.inl l4), some (.inl l5), some (.inl l6), some (.inl l7), none, none, none] [] σ) (l3 : Int32) (l4 : Int32) (l5 : Int32) (l6 : Int32) (l7 : Int32) (σ : ST) : AW wlM yX5_findRow cX5_findRow 11 none rmX5_findRow emV (fX5_findRow_J391 k185 l3 l4 l5 l6 l7 σ) 391 [some (.inr (some 0)), none, none, some (.inl l3), some (.inl l4), some (.inl l5), some (.inl l6), some (.inl l7), none, none, none] [] σ := by
  unfold fX5_findRow_J391
  refine aw_iincB (pc := 391) (v := 1) (Lf := fun v9 => [some (.inr (some 0)), none, none, some (.inl l3), some (.inl l4), some (.inl l5), some (.inl l6), some (.inl v9), none, none, none]) dX5_findRow_391 rfl (by decide) (by decide) (fun _ => rfl) (fun v9 => ?_)
  refine aw_goto (pc := 394) (tgt := 185) dX5_findRow_394 (by decide) ?_
  exact aw_wk (wk_same (wk_none (wk_none (wk_same (wk_same (wk_same (wk_same (wk_same (wk_none (wk_none (wk_none wk_nil))))))))))) (hk185 l3 l4 l5 l6 v9 σ)
noncomputable def fX5_findRow_J354 (k185 : Int32 → Int32 → Int32 → Int32 → Int32 → ST → Option (Unit × ST)) (l3 : Int32) (l4 : Int32) (l5 : Int32) (l6 : Int32) (l7 : Int32) (σ : ST) : Option (Unit × ST) :=
  if ib l7 20 = true then if (σ.1 22 l7.toNatClampNeg) = (-5) then (bindv (l6 - (σ.1 0 17)) (fun v8 => fX5_findRow_J391 k185 l3 l4 l5 v8 l7 σ)) else (if ib l7 20 = true then bindv (σ.1 22 l7.toNatClampNeg) (fun v10 => fX5_findRow_J391 k185 l3 l7 v10 l6 l7 σ) else none) else none
set_option maxRecDepth 10000 in
theorem xX5_findRow_J354 (k185 : Int32 → Int32 → Int32 → Int32 → Int32 → ST → Option (Unit × ST)) (hk185 : ∀ (l3 : Int32) (l4 : Int32) (l5 : Int32) (l6 : Int32) (l7 : Int32) (σ : ST), AW wlM yX5_findRow cX5_findRow 11 none rmX5_findRow emV (k185 l3 l4 l5 l6 l7 σ) 185 [some (.inr (some 0)), none, none, some (.inl l3), some (.inl l4), some (.inl l5), some (.inl l6), some (.inl l7), none, none, none] [] σ) (l3 : Int32) (l4 : Int32) (l5 : Int32) (l6 : Int32) (l7 : Int32) (σ : ST) : AW wlM yX5_findRow cX5_findRow 11 none rmX5_findRow emV (fX5_findRow_J354 k185 l3 l4 l5 l6 l7 σ) 354 [some (.inr (some 0)), none, none, some (.inl l3), some (.inl l4), some (.inl l5), some (.inl l6), some (.inl l7), none, none, none] [] σ := by
  unfold fX5_findRow_J354
  refine aw_aload_n (pc := 354) dX5_findRow_354 rfl rfl ?_
  refine aw_get (pc := 355) (v := .inr (some 22)) foX5_81 (atM0 _) rfl dX5_findRow_355 ?_
  refine aw_iload (pc := 358) dX5_findRow_358 rfl ?_
  refine aw_iald' (pc := 360) (atM22 _) dX5_findRow_360 ?_
  refine aw_bipush (pc := 361) (v := (-5)) dX5_findRow_361 (by decide) ?_
  refine aw_icmp_ne (pc := 363) (tgt := 378) dX5_findRow_363 (by decide) (fun _ => ?_) (fun _ => ?_)
  · refine aw_iload (pc := 366) dX5_findRow_366 rfl ?_
    refine aw_aload_n (pc := 368) dX5_findRow_368 rfl rfl ?_
    refine aw_get (pc := 369) (v := .inl (σ.1 0 17)) foX5_54 (atM0 _) rfl dX5_findRow_369 ?_
    refine aw_isub (pc := 372) dX5_findRow_372 ?_
    refine aw_stB (pc := 373) (Lf := fun v8 => [some (.inr (some 0)), none, none, some (.inl l3), some (.inl l4), some (.inl l5), some (.inl v8), some (.inl l7), none, none, none]) dX5_findRow_373 (by decide) (fun _ => rfl) (fun v8 => ?_)
    refine aw_goto (pc := 375) (tgt := 391) dX5_findRow_375 (by decide) ?_
    exact aw_wk (wk_same (wk_none (wk_none (wk_same (wk_same (wk_same (wk_same (wk_same (wk_none (wk_none (wk_none wk_nil))))))))))) (xX5_findRow_J391 k185 hk185 l3 l4 l5 v8 l7 σ)
  refine aw_iload (pc := 378) dX5_findRow_378 rfl ?_
  refine aw_st (pc := 380) (L' := [some (.inr (some 0)), none, none, some (.inl l3), some (.inl l7), some (.inl l5), some (.inl l6), some (.inl l7), none, none, none]) dX5_findRow_380 (by decide) rfl ?_
  refine aw_aload_n (pc := 382) dX5_findRow_382 rfl rfl ?_
  refine aw_get (pc := 383) (v := .inr (some 22)) foX5_81 (atM0 _) rfl dX5_findRow_383 ?_
  refine aw_iload (pc := 386) dX5_findRow_386 rfl ?_
  refine aw_iald' (pc := 388) (atM22 _) dX5_findRow_388 ?_
  refine aw_stB (pc := 389) (Lf := fun v10 => [some (.inr (some 0)), none, none, some (.inl l3), some (.inl l7), some (.inl v10), some (.inl l6), some (.inl l7), none, none, none]) dX5_findRow_389 (by decide) (fun _ => rfl) (fun v10 => ?_)
  exact aw_wk (wk_same (wk_none (wk_none (wk_same (wk_same (wk_same (wk_same (wk_same (wk_none (wk_none (wk_none wk_nil))))))))))) (xX5_findRow_J391 k185 hk185 l3 l7 v10 l6 l7 σ)
noncomputable def fX5_findRow_J348 (k185 : Int32 → Int32 → Int32 → Int32 → Int32 → ST → Option (Unit × ST)) (k203 : Int32 → Int32 → Int32 → Int32 → Int32 → Int32 → ST → Option (Unit × ST)) (l3 : Int32) (l4 : Int32) (l5 : Int32) (l6 : Int32) (l7 : Int32) (l8 : Int32) (σ : ST) : Option (Unit × ST) :=
  bindv (l8 + 1) (fun v14 => k203 l3 l4 l5 l6 l7 v14 σ)
set_option maxRecDepth 10000 in
theorem xX5_findRow_J348 (k185 : Int32 → Int32 → Int32 → Int32 → Int32 → ST → Option (Unit × ST)) (k203 : Int32 → Int32 → Int32 → Int32 → Int32 → Int32 → ST → Option (Unit × ST)) (hk185 : ∀ (l3 : Int32) (l4 : Int32) (l5 : Int32) (l6 : Int32) (l7 : Int32) (σ : ST), AW wlM yX5_findRow cX5_findRow 11 none rmX5_findRow emV (k185 l3 l4 l5 l6 l7 σ) 185 [some (.inr (some 0)), none, none, some (.inl l3), some (.inl l4), some (.inl l5), some (.inl l6), some (.inl l7), none, none, none] [] σ) (hk203 : ∀ (l3 : Int32) (l4 : Int32) (l5 : Int32) (l6 : Int32) (l7 : Int32) (l8 : Int32) (σ : ST), AW wlM yX5_findRow cX5_findRow 11 none rmX5_findRow emV (k203 l3 l4 l5 l6 l7 l8 σ) 203 [some (.inr (some 0)), none, none, some (.inl l3), some (.inl l4), some (.inl l5), some (.inl l6), some (.inl l7), some (.inl l8), none, none] [] σ) (l3 : Int32) (l4 : Int32) (l5 : Int32) (l6 : Int32) (l7 : Int32) (l8 : Int32) (σ : ST) : AW wlM yX5_findRow cX5_findRow 11 none rmX5_findRow emV (fX5_findRow_J348 k185 k203 l3 l4 l5 l6 l7 l8 σ) 348 [some (.inr (some 0)), none, none, some (.inl l3), some (.inl l4), some (.inl l5), some (.inl l6), some (.inl l7), some (.inl l8), none, none] [] σ := by
  unfold fX5_findRow_J348
  refine aw_iincB (pc := 348) (v := 1) (Lf := fun v14 => [some (.inr (some 0)), none, none, some (.inl l3), some (.inl l4), some (.inl l5), some (.inl l6), some (.inl l7), some (.inl v14), none, none]) dX5_findRow_348 rfl (by decide) (by decide) (fun _ => rfl) (fun v14 => ?_)
  refine aw_goto (pc := 351) (tgt := 203) dX5_findRow_351 (by decide) ?_
  exact aw_wk (wk_same (wk_none (wk_none (wk_same (wk_same (wk_same (wk_same (wk_same (wk_same (wk_none (wk_none wk_nil))))))))))) (hk203 l3 l4 l5 l6 l7 v14 σ)
noncomputable def fX5_findRow_J263 (k185 : Int32 → Int32 → Int32 → Int32 → Int32 → ST → Option (Unit × ST)) (k203 : Int32 → Int32 → Int32 → Int32 → Int32 → Int32 → ST → Option (Unit × ST)) (l3 : Int32) (l4 : Int32) (l5 : Int32) (l6 : Int32) (l7 : Int32) (l8 : Int32) (l9 : Int32) (s0 : Int32) (σ : ST) : Option (Unit × ST) :=
  if ib ((10 * l7) + l8) 200 = true then if 1000000000 ≤ (σ.1 21 ((10 * l7) + l8).toNatClampNeg) then (fX5_findRow_J348 k185 k203 l3 l4 l5 l6 l7 l8 σ) else (if 1000000000 ≤ s0 then (fX5_findRow_J348 k185 k203 l3 l4 l5 l6 l7 l8 σ) else (if ib ((10 * l7) + l8) 200 = true then if (s0 + (σ.1 21 ((10 * l7) + l8).toNatClampNeg)) = l6 then (if ib l7 20 = true then bindv (stI σ 22 l7.toNatClampNeg l9) (fun σ15 => if ib ((10 * l7) + l8) 200 = true then cb (fX5_offOf (σ15.1 0 31) l7 l9 σ15) (fun r16 σ17 => bindv ((σ15.1 21 ((10 * l7) + l8).toNatClampNeg) - r16) (fun v18 => fX5_findRow_J348 k185 k203 l3 l4 l5 v18 l7 l8 σ17)) else none) else none) else (fX5_findRow_J348 k185 k203 l3 l4 l5 l6 l7 l8 σ) else none)) else none
set_option maxRecDepth 10000 in
theorem xX5_findRow_J263 (k185 : Int32 → Int32 → Int32 → Int32 → Int32 → ST → Option (Unit × ST)) (k203 : Int32 → Int32 → Int32 → Int32 → Int32 → Int32 → ST → Option (Unit × ST)) (hk185 : ∀ (l3 : Int32) (l4 : Int32) (l5 : Int32) (l6 : Int32) (l7 : Int32) (σ : ST), AW wlM yX5_findRow cX5_findRow 11 none rmX5_findRow emV (k185 l3 l4 l5 l6 l7 σ) 185 [some (.inr (some 0)), none, none, some (.inl l3), some (.inl l4), some (.inl l5), some (.inl l6), some (.inl l7), none, none, none] [] σ) (hk203 : ∀ (l3 : Int32) (l4 : Int32) (l5 : Int32) (l6 : Int32) (l7 : Int32) (l8 : Int32) (σ : ST), AW wlM yX5_findRow cX5_findRow 11 none rmX5_findRow emV (k203 l3 l4 l5 l6 l7 l8 σ) 203 [some (.inr (some 0)), none, none, some (.inl l3), some (.inl l4), some (.inl l5), some (.inl l6), some (.inl l7), some (.inl l8), none, none] [] σ) (l3 : Int32) (l4 : Int32) (l5 : Int32) (l6 : Int32) (l7 : Int32) (l8 : Int32) (l9 : Int32) (s0 : Int32) (σ : ST) : AW wlM yX5_findRow cX5_findRow 11 none rmX5_findRow emV (fX5_findRow_J263 k185 k203 l3 l4 l5 l6 l7 l8 l9 s0 σ) 263 [some (.inr (some 0)), none, none, some (.inl l3), some (.inl l4), some (.inl l5), some (.inl l6), some (.inl l7), some (.inl l8), some (.inl l9), none] [.inl s0] σ := by
  unfold fX5_findRow_J263
  refine aw_st (pc := 263) (L' := [some (.inr (some 0)), none, none, some (.inl l3), some (.inl l4), some (.inl l5), some (.inl l6), some (.inl l7), some (.inl l8), some (.inl l9), some (.inl s0)]) dX5_findRow_263 (by decide) rfl ?_
  refine aw_aload_n (pc := 265) dX5_findRow_265 rfl rfl ?_
  refine aw_get (pc := 266) (v := .inr (some 21)) foX5_78 (atM0 _) rfl dX5_findRow_266 ?_
  refine aw_bipush (pc := 269) (v := 10) dX5_findRow_269 (by decide) ?_
  refine aw_iload (pc := 271) dX5_findRow_271 rfl ?_
  refine aw_imul (pc := 273) dX5_findRow_273 ?_
  refine aw_iload (pc := 274) dX5_findRow_274 rfl ?_
  refine aw_iadd (pc := 276) dX5_findRow_276 ?_
  refine aw_iald' (pc := 277) (atM21 _) dX5_findRow_277 ?_
  refine aw_ldc (pc := 278) lcX5_108 dX5_findRow_278 ?_
  refine aw_icmp_ge (pc := 280) (tgt := 348) dX5_findRow_280 (by decide) (fun _ => ?_) (fun _ => ?_)
  · exact aw_wk (wk_same (wk_none (wk_none (wk_same (wk_same (wk_same (wk_same (wk_same (wk_same (wk_none (wk_none wk_nil))))))))))) (xX5_findRow_J348 k185 k203 hk185 hk203 l3 l4 l5 l6 l7 l8 σ)
  refine aw_iload (pc := 283) dX5_findRow_283 rfl ?_
  refine aw_ldc (pc := 285) lcX5_108 dX5_findRow_285 ?_
  refine aw_icmp_ge (pc := 287) (tgt := 348) dX5_findRow_287 (by decide) (fun _ => ?_) (fun _ => ?_)
  · exact aw_wk (wk_same (wk_none (wk_none (wk_same (wk_same (wk_same (wk_same (wk_same (wk_same (wk_none (wk_none wk_nil))))))))))) (xX5_findRow_J348 k185 k203 hk185 hk203 l3 l4 l5 l6 l7 l8 σ)
  refine aw_iload (pc := 290) dX5_findRow_290 rfl ?_
  refine aw_aload_n (pc := 292) dX5_findRow_292 rfl rfl ?_
  refine aw_get (pc := 293) (v := .inr (some 21)) foX5_78 (atM0 _) rfl dX5_findRow_293 ?_
  refine aw_bipush (pc := 296) (v := 10) dX5_findRow_296 (by decide) ?_
  refine aw_iload (pc := 298) dX5_findRow_298 rfl ?_
  refine aw_imul (pc := 300) dX5_findRow_300 ?_
  refine aw_iload (pc := 301) dX5_findRow_301 rfl ?_
  refine aw_iadd (pc := 303) dX5_findRow_303 ?_
  refine aw_iald' (pc := 304) (atM21 _) dX5_findRow_304 ?_
  refine aw_iadd (pc := 305) dX5_findRow_305 ?_
  refine aw_iload (pc := 306) dX5_findRow_306 rfl ?_
  refine aw_icmp_ne (pc := 308) (tgt := 348) dX5_findRow_308 (by decide) (fun _ => ?_) (fun _ => ?_)
  · refine aw_aload_n (pc := 311) dX5_findRow_311 rfl rfl ?_
    refine aw_get (pc := 312) (v := .inr (some 22)) foX5_81 (atM0 _) rfl dX5_findRow_312 ?_
    refine aw_iload (pc := 315) dX5_findRow_315 rfl ?_
    refine aw_iload (pc := 317) dX5_findRow_317 rfl ?_
    refine aw_iastB (pc := 319) (atM22 _) (stM22 _ _ _) dX5_findRow_319 (fun σ15 => ?_)
    refine aw_aload_n (pc := 320) dX5_findRow_320 rfl rfl ?_
    refine aw_get (pc := 321) (v := .inr (some 21)) foX5_78 (atM0 _) rfl dX5_findRow_321 ?_
    refine aw_bipush (pc := 324) (v := 10) dX5_findRow_324 (by decide) ?_
    refine aw_iload (pc := 326) dX5_findRow_326 rfl ?_
    refine aw_imul (pc := 328) dX5_findRow_328 ?_
    refine aw_iload (pc := 329) dX5_findRow_329 rfl ?_
    refine aw_iadd (pc := 331) dX5_findRow_331 ?_
    refine aw_iald' (pc := 332) (atM21 _) dX5_findRow_332 ?_
    refine aw_aload_n (pc := 333) dX5_findRow_333 rfl rfl ?_
    refine aw_aload_n (pc := 334) dX5_findRow_334 rfl rfl ?_
    refine aw_get (pc := 335) (v := .inl (σ15.1 0 31)) foX5_147 (atM0 _) rfl dX5_findRow_335 ?_
    refine aw_iload (pc := 338) dX5_findRow_338 rfl ?_
    refine aw_iload (pc := 340) dX5_findRow_340 rfl ?_
    refine aw_cVI (pc := 342) (st := [.inl (σ15.1 21 ((10 * l7) + l8).toNatClampNeg)]) (xX5_offOf (σ15.1 0 31) l7 l9 σ15) (atM0 _) rfl ckX5_150 ⟨rfl, rfl, by decide, by decide⟩ (Nat.le_of_ble_eq_true rfl) dX5_findRow_342 rfl (fun r16 σ17 => ?_)
    refine aw_isub (pc := 345) dX5_findRow_345 ?_
    refine aw_stB (pc := 346) (Lf := fun v18 => [some (.inr (some 0)), none, none, some (.inl l3), some (.inl l4), some (.inl l5), some (.inl v18), some (.inl l7), some (.inl l8), some (.inl l9), some (.inl s0)]) dX5_findRow_346 (by decide) (fun _ => rfl) (fun v18 => ?_)
    exact aw_wk (wk_same (wk_none (wk_none (wk_same (wk_same (wk_same (wk_same (wk_same (wk_same (wk_none (wk_none wk_nil))))))))))) (xX5_findRow_J348 k185 k203 hk185 hk203 l3 l4 l5 v18 l7 l8 σ17)
  exact aw_wk (wk_same (wk_none (wk_none (wk_same (wk_same (wk_same (wk_same (wk_same (wk_same (wk_none (wk_none wk_nil))))))))))) (xX5_findRow_J348 k185 k203 hk185 hk203 l3 l4 l5 l6 l7 l8 σ)
noncomputable def fX5_findRow_B203 (k185 : Int32 → Int32 → Int32 → Int32 → Int32 → ST → Option (Unit × ST)) (k203 : Int32 → Int32 → Int32 → Int32 → Int32 → Int32 → ST → Option (Unit × ST)) (l3 : Int32) (l4 : Int32) (l5 : Int32) (l6 : Int32) (l7 : Int32) (l8 : Int32) (σ : ST) : Option (Unit × ST) :=
  if ib l7 20 = true then if (σ.1 20 l7.toNatClampNeg) ≤ l8 then (fX5_findRow_J354 k185 l3 l4 l5 l6 l7 σ) else (if ib l7 20 = true then if (σ.1 22 l7.toNatClampNeg) = (-5) then (if ib ((10 * l7) + l8) 200 = true then bindv (σ.1 19 ((10 * l7) + l8).toNatClampNeg) (fun v11 => if 0 ≤ l4 then (cb (fX5_step l4 l5 l7 v11 σ) (fun r12 σ13 => fX5_findRow_J263 k185 k203 l3 l4 l5 l6 l7 l8 v11 r12 σ13)) else (fX5_findRow_J263 k185 k203 l3 l4 l5 l6 l7 l8 v11 0 σ)) else none) else (fX5_findRow_J354 k185 l3 l4 l5 l6 l7 σ) else none) else none
set_option maxRecDepth 10000 in
theorem xX5_findRow_B203 (k185 : Int32 → Int32 → Int32 → Int32 → Int32 → ST → Option (Unit × ST)) (k203 : Int32 → Int32 → Int32 → Int32 → Int32 → Int32 → ST → Option (Unit × ST)) (hk185 : ∀ (l3 : Int32) (l4 : Int32) (l5 : Int32) (l6 : Int32) (l7 : Int32) (σ : ST), AW wlM yX5_findRow cX5_findRow 11 none rmX5_findRow emV (k185 l3 l4 l5 l6 l7 σ) 185 [some (.inr (some 0)), none, none, some (.inl l3), some (.inl l4), some (.inl l5), some (.inl l6), some (.inl l7), none, none, none] [] σ) (hk203 : ∀ (l3 : Int32) (l4 : Int32) (l5 : Int32) (l6 : Int32) (l7 : Int32) (l8 : Int32) (σ : ST), AW wlM yX5_findRow cX5_findRow 11 none rmX5_findRow emV (k203 l3 l4 l5 l6 l7 l8 σ) 203 [some (.inr (some 0)), none, none, some (.inl l3), some (.inl l4), some (.inl l5), some (.inl l6), some (.inl l7), some (.inl l8), none, none] [] σ) (l3 : Int32) (l4 : Int32) (l5 : Int32) (l6 : Int32) (l7 : Int32) (l8 : Int32) (σ : ST) : AW wlM yX5_findRow cX5_findRow 11 none rmX5_findRow emV (fX5_findRow_B203 k185 k203 l3 l4 l5 l6 l7 l8 σ) 203 [some (.inr (some 0)), none, none, some (.inl l3), some (.inl l4), some (.inl l5), some (.inl l6), some (.inl l7), some (.inl l8), none, none] [] σ := by
  unfold fX5_findRow_B203
  refine aw_iload (pc := 203) dX5_findRow_203 rfl ?_
  refine aw_aload_n (pc := 205) dX5_findRow_205 rfl rfl ?_
  refine aw_get (pc := 206) (v := .inr (some 20)) foX5_75 (atM0 _) rfl dX5_findRow_206 ?_
  refine aw_iload (pc := 209) dX5_findRow_209 rfl ?_
  refine aw_iald' (pc := 211) (atM20 _) dX5_findRow_211 ?_
  refine aw_icmp_ge (pc := 212) (tgt := 354) dX5_findRow_212 (by decide) (fun _ => ?_) (fun _ => ?_)
  · exact aw_wk (wk_same (wk_none (wk_none (wk_same (wk_same (wk_same (wk_same (wk_same (wk_none (wk_none (wk_none wk_nil))))))))))) (xX5_findRow_J354 k185 hk185 l3 l4 l5 l6 l7 σ)
  refine aw_aload_n (pc := 215) dX5_findRow_215 rfl rfl ?_
  refine aw_get (pc := 216) (v := .inr (some 22)) foX5_81 (atM0 _) rfl dX5_findRow_216 ?_
  refine aw_iload (pc := 219) dX5_findRow_219 rfl ?_
  refine aw_iald' (pc := 221) (atM22 _) dX5_findRow_221 ?_
  refine aw_bipush (pc := 222) (v := (-5)) dX5_findRow_222 (by decide) ?_
  refine aw_icmp_ne (pc := 224) (tgt := 354) dX5_findRow_224 (by decide) (fun _ => ?_) (fun _ => ?_)
  · refine aw_aload_n (pc := 227) dX5_findRow_227 rfl rfl ?_
    refine aw_get (pc := 228) (v := .inr (some 19)) foX5_72 (atM0 _) rfl dX5_findRow_228 ?_
    refine aw_bipush (pc := 231) (v := 10) dX5_findRow_231 (by decide) ?_
    refine aw_iload (pc := 233) dX5_findRow_233 rfl ?_
    refine aw_imul (pc := 235) dX5_findRow_235 ?_
    refine aw_iload (pc := 236) dX5_findRow_236 rfl ?_
    refine aw_iadd (pc := 238) dX5_findRow_238 ?_
    refine aw_iald' (pc := 239) (atM19 _) dX5_findRow_239 ?_
    refine aw_stB (pc := 240) (Lf := fun v11 => [some (.inr (some 0)), none, none, some (.inl l3), some (.inl l4), some (.inl l5), some (.inl l6), some (.inl l7), some (.inl l8), some (.inl v11), none]) dX5_findRow_240 (by decide) (fun _ => rfl) (fun v11 => ?_)
    refine aw_iload (pc := 242) dX5_findRow_242 rfl ?_
    refine aw_if_ge (pc := 244) (tgt := 251) dX5_findRow_244 (by decide) (fun _ => ?_) (fun _ => ?_)
    · refine aw_aload_n (pc := 251) dX5_findRow_251 rfl rfl ?_
      refine aw_iload (pc := 252) dX5_findRow_252 rfl ?_
      refine aw_iload (pc := 254) dX5_findRow_254 rfl ?_
      refine aw_iload (pc := 256) dX5_findRow_256 rfl ?_
      refine aw_iload (pc := 258) dX5_findRow_258 rfl ?_
      refine aw_cVI (pc := 260) (st := []) (xX5_step l4 l5 l7 v11 σ) (atM0 _) rfl ckX5_161 ⟨rfl, rfl, by decide, by decide⟩ (Nat.le_of_ble_eq_true rfl) dX5_findRow_260 rfl (fun r12 σ13 => ?_)
      exact aw_wk (wk_same (wk_none (wk_none (wk_same (wk_same (wk_same (wk_same (wk_same (wk_same (wk_same (wk_none wk_nil))))))))))) (xX5_findRow_J263 k185 k203 hk185 hk203 l3 l4 l5 l6 l7 l8 v11 r12 σ13)
    refine aw_iconst (pc := 247) (v := 0) dX5_findRow_247 (by decide) ?_
    refine aw_goto (pc := 248) (tgt := 263) dX5_findRow_248 (by decide) ?_
    exact aw_wk (wk_same (wk_none (wk_none (wk_same (wk_same (wk_same (wk_same (wk_same (wk_same (wk_same (wk_none wk_nil))))))))))) (xX5_findRow_J263 k185 k203 hk185 hk203 l3 l4 l5 l6 l7 l8 v11 0 σ)
  exact aw_wk (wk_same (wk_none (wk_none (wk_same (wk_same (wk_same (wk_same (wk_same (wk_none (wk_none (wk_none wk_nil))))))))))) (xX5_findRow_J354 k185 hk185 l3 l4 l5 l6 l7 σ)
noncomputable def fX5_findRow_L203 (k185 : Int32 → Int32 → Int32 → Int32 → Int32 → ST → Option (Unit × ST)) (n : Nat) (l3 : Int32) (l4 : Int32) (l5 : Int32) (l6 : Int32) (l7 : Int32) (l8 : Int32) (σ : ST) : Option (Unit × ST) := loopN (α := Int32 × Int32 × Int32 × Int32 × Int32 × Int32 × ST) (fun k a => fX5_findRow_B203 k185 (fun l3 l4 l5 l6 l7 l8 σ => k (l3, l4, l5, l6, l7, l8, σ)) a.1 a.2.1 a.2.2.1 a.2.2.2.1 a.2.2.2.2.1 a.2.2.2.2.2.1 a.2.2.2.2.2.2) n (l3, l4, l5, l6, l7, l8, σ)
theorem xX5_findRow_L203 (k185 : Int32 → Int32 → Int32 → Int32 → Int32 → ST → Option (Unit × ST)) (hk185 : ∀ (l3 : Int32) (l4 : Int32) (l5 : Int32) (l6 : Int32) (l7 : Int32) (σ : ST), AW wlM yX5_findRow cX5_findRow 11 none rmX5_findRow emV (k185 l3 l4 l5 l6 l7 σ) 185 [some (.inr (some 0)), none, none, some (.inl l3), some (.inl l4), some (.inl l5), some (.inl l6), some (.inl l7), none, none, none] [] σ) (n : Nat) (l3 : Int32) (l4 : Int32) (l5 : Int32) (l6 : Int32) (l7 : Int32) (l8 : Int32) (σ : ST) : AW wlM yX5_findRow cX5_findRow 11 none rmX5_findRow emV (fX5_findRow_L203 k185 n l3 l4 l5 l6 l7 l8 σ) 203 [some (.inr (some 0)), none, none, some (.inl l3), some (.inl l4), some (.inl l5), some (.inl l6), some (.inl l7), some (.inl l8), none, none] [] σ :=
  aw_loop (α := Int32 × Int32 × Int32 × Int32 × Int32 × Int32 × ST) (Lf := fun a => [some (.inr (some 0)), none, none, some (.inl (a.1)), some (.inl (a.2.1)), some (.inl (a.2.2.1)), some (.inl (a.2.2.2.1)), some (.inl (a.2.2.2.2.1)), some (.inl (a.2.2.2.2.2.1)), none, none]) (sf := fun a => a.2.2.2.2.2.2) (fun k hk a => by
    obtain ⟨l3, l4, l5, l6, l7, l8, σ⟩ := a
    exact xX5_findRow_B203 k185 (fun l3 l4 l5 l6 l7 l8 σ => k (l3, l4, l5, l6, l7, l8, σ)) hk185 (fun l3 l4 l5 l6 l7 l8 σ => hk (l3, l4, l5, l6, l7, l8, σ)) l3 l4 l5 l6 l7 l8 σ) n (l3, l4, l5, l6, l7, l8, σ)
noncomputable def fX5_findRow_B185 (k185 : Int32 → Int32 → Int32 → Int32 → Int32 → ST → Option (Unit × ST)) (l3 : Int32) (l4 : Int32) (l5 : Int32) (l6 : Int32) (l7 : Int32) (σ : ST) : Option (Unit × ST) :=
  if l3 ≤ l7 then (some ((), σ)) else (if ib l7 20 = true then bindv (stI σ 22 l7.toNatClampNeg (-5)) (fun σ7 => fX5_findRow_L203 k185 FU l3 l4 l5 l6 l7 0 σ7) else none)
set_option maxRecDepth 10000 in
theorem xX5_findRow_B185 (k185 : Int32 → Int32 → Int32 → Int32 → Int32 → ST → Option (Unit × ST)) (hk185 : ∀ (l3 : Int32) (l4 : Int32) (l5 : Int32) (l6 : Int32) (l7 : Int32) (σ : ST), AW wlM yX5_findRow cX5_findRow 11 none rmX5_findRow emV (k185 l3 l4 l5 l6 l7 σ) 185 [some (.inr (some 0)), none, none, some (.inl l3), some (.inl l4), some (.inl l5), some (.inl l6), some (.inl l7), none, none, none] [] σ) (l3 : Int32) (l4 : Int32) (l5 : Int32) (l6 : Int32) (l7 : Int32) (σ : ST) : AW wlM yX5_findRow cX5_findRow 11 none rmX5_findRow emV (fX5_findRow_B185 k185 l3 l4 l5 l6 l7 σ) 185 [some (.inr (some 0)), none, none, some (.inl l3), some (.inl l4), some (.inl l5), some (.inl l6), some (.inl l7), none, none, none] [] σ := by
  unfold fX5_findRow_B185
  refine aw_iload (pc := 185) dX5_findRow_185 rfl ?_
  refine aw_iload_n (pc := 187) dX5_findRow_187 rfl rfl ?_
  refine aw_icmp_ge (pc := 188) (tgt := 397) dX5_findRow_188 (by decide) (fun _ => ?_) (fun _ => ?_)
  · exact aw_ret_v (pc := 397) rfl rfl dX5_findRow_397
  refine aw_aload_n (pc := 191) dX5_findRow_191 rfl rfl ?_
  refine aw_get (pc := 192) (v := .inr (some 22)) foX5_81 (atM0 _) rfl dX5_findRow_192 ?_
  refine aw_iload (pc := 195) dX5_findRow_195 rfl ?_
  refine aw_bipush (pc := 197) (v := (-5)) dX5_findRow_197 (by decide) ?_
  refine aw_iastB (pc := 199) (atM22 _) (stM22 _ _ _) dX5_findRow_199 (fun σ7 => ?_)
  refine aw_iconst (pc := 200) (v := 0) dX5_findRow_200 (by decide) ?_
  refine aw_st (pc := 201) (L' := [some (.inr (some 0)), none, none, some (.inl l3), some (.inl l4), some (.inl l5), some (.inl l6), some (.inl l7), some (.inl 0), none, none]) dX5_findRow_201 (by decide) rfl ?_
  exact aw_wk (wk_same (wk_none (wk_none (wk_same (wk_same (wk_same (wk_same (wk_same (wk_same (wk_none (wk_none wk_nil))))))))))) (xX5_findRow_L203 k185 hk185 FU l3 l4 l5 l6 l7 0 σ7)
noncomputable def fX5_findRow_L185 (n : Nat) (l3 : Int32) (l4 : Int32) (l5 : Int32) (l6 : Int32) (l7 : Int32) (σ : ST) : Option (Unit × ST) := loopN (α := Int32 × Int32 × Int32 × Int32 × Int32 × ST) (fun k a => fX5_findRow_B185 (fun l3 l4 l5 l6 l7 σ => k (l3, l4, l5, l6, l7, σ)) a.1 a.2.1 a.2.2.1 a.2.2.2.1 a.2.2.2.2.1 a.2.2.2.2.2) n (l3, l4, l5, l6, l7, σ)
theorem xX5_findRow_L185 (n : Nat) (l3 : Int32) (l4 : Int32) (l5 : Int32) (l6 : Int32) (l7 : Int32) (σ : ST) : AW wlM yX5_findRow cX5_findRow 11 none rmX5_findRow emV (fX5_findRow_L185 n l3 l4 l5 l6 l7 σ) 185 [some (.inr (some 0)), none, none, some (.inl l3), some (.inl l4), some (.inl l5), some (.inl l6), some (.inl l7), none, none, none] [] σ :=
  aw_loop (α := Int32 × Int32 × Int32 × Int32 × Int32 × ST) (Lf := fun a => [some (.inr (some 0)), none, none, some (.inl (a.1)), some (.inl (a.2.1)), some (.inl (a.2.2.1)), some (.inl (a.2.2.2.1)), some (.inl (a.2.2.2.2.1)), none, none, none]) (sf := fun a => a.2.2.2.2.2) (fun k hk a => by
    obtain ⟨l3, l4, l5, l6, l7, σ⟩ := a
    exact xX5_findRow_B185 (fun l3 l4 l5 l6 l7 σ => k (l3, l4, l5, l6, l7, σ)) (fun l3 l4 l5 l6 l7 σ => hk (l3, l4, l5, l6, l7, σ)) l3 l4 l5 l6 l7 σ) n (l3, l4, l5, l6, l7, σ)
noncomputable def fX5_findRow_J144 (k15 : Int32 → Int32 → Int32 → Int32 → ST → Option (Unit × ST)) (k23 : Int32 → Int32 → Int32 → Int32 → Int32 → ST → Option (Unit × ST)) (l1 : Int32) (l2 : Int32) (l3 : Int32) (l4 : Int32) (l5 : Int32) (s0 : Int32) (s1 : Int32) (σ : ST) : Option (Unit × ST) :=
  if ib s1 200 = true then bindv (stI σ 21 s1.toNatClampNeg s0) (fun σ21 => bindv (l5 + 1) (fun v22 => k23 l1 l2 l3 l4 v22 σ21)) else none
set_option maxRecDepth 10000 in
theorem xX5_findRow_J144 (k15 : Int32 → Int32 → Int32 → Int32 → ST → Option (Unit × ST)) (k23 : Int32 → Int32 → Int32 → Int32 → Int32 → ST → Option (Unit × ST)) (hk15 : ∀ (l1 : Int32) (l2 : Int32) (l3 : Int32) (l4 : Int32) (σ : ST), AW wlM yX5_findRow cX5_findRow 11 none rmX5_findRow emV (k15 l1 l2 l3 l4 σ) 15 [some (.inr (some 0)), some (.inl l1), some (.inl l2), some (.inl l3), some (.inl l4), none, none, none, none, none, none] [] σ) (hk23 : ∀ (l1 : Int32) (l2 : Int32) (l3 : Int32) (l4 : Int32) (l5 : Int32) (σ : ST), AW wlM yX5_findRow cX5_findRow 11 none rmX5_findRow emV (k23 l1 l2 l3 l4 l5 σ) 23 [some (.inr (some 0)), some (.inl l1), some (.inl l2), some (.inl l3), some (.inl l4), some (.inl l5), none, none, none, none, none] [] σ) (l1 : Int32) (l2 : Int32) (l3 : Int32) (l4 : Int32) (l5 : Int32) (s0 : Int32) (s1 : Int32) (σ : ST) : AW wlM yX5_findRow cX5_findRow 11 none rmX5_findRow emV (fX5_findRow_J144 k15 k23 l1 l2 l3 l4 l5 s0 s1 σ) 144 [some (.inr (some 0)), some (.inl l1), some (.inl l2), some (.inl l3), some (.inl l4), some (.inl l5), none, none, none, none, none] [.inl s0, .inl s1, .inr (some 21)] σ := by
  unfold fX5_findRow_J144
  refine aw_iastB (pc := 144) (atM21 _) (stM21 _ _ _) dX5_findRow_144 (fun σ21 => ?_)
  refine aw_iincB (pc := 145) (v := 1) (Lf := fun v22 => [some (.inr (some 0)), some (.inl l1), some (.inl l2), some (.inl l3), some (.inl l4), some (.inl v22), none, none, none, none, none]) dX5_findRow_145 rfl (by decide) (by decide) (fun _ => rfl) (fun v22 => ?_)
  refine aw_goto (pc := 148) (tgt := 23) dX5_findRow_148 (by decide) ?_
  exact aw_wk (wk_same (wk_same (wk_same (wk_same (wk_same (wk_same (wk_none (wk_none (wk_none (wk_none (wk_none wk_nil))))))))))) (hk23 l1 l2 l3 l4 v22 σ21)
noncomputable def fX5_findRow_J103 (k15 : Int32 → Int32 → Int32 → Int32 → ST → Option (Unit × ST)) (k23 : Int32 → Int32 → Int32 → Int32 → Int32 → ST → Option (Unit × ST)) (l1 : Int32) (l2 : Int32) (l3 : Int32) (l4 : Int32) (l5 : Int32) (l6 : Int32) (s0 : Int32) (σ : ST) : Option (Unit × ST) :=
  if 1000000000 ≤ s0 then (fX5_findRow_J144 k15 k23 l1 l2 l3 l4 l5 1000000000 ((10 * l4) + l5) σ) else (cb (fX5_offOf (σ.1 0 31) l4 l6 σ) (fun r23 σ24 => fX5_findRow_J144 k15 k23 l1 l2 l3 l4 l5 (r23 + s0) ((10 * l4) + l5) σ24))
set_option maxRecDepth 10000 in
theorem xX5_findRow_J103 (k15 : Int32 → Int32 → Int32 → Int32 → ST → Option (Unit × ST)) (k23 : Int32 → Int32 → Int32 → Int32 → Int32 → ST → Option (Unit × ST)) (hk15 : ∀ (l1 : Int32) (l2 : Int32) (l3 : Int32) (l4 : Int32) (σ : ST), AW wlM yX5_findRow cX5_findRow 11 none rmX5_findRow emV (k15 l1 l2 l3 l4 σ) 15 [some (.inr (some 0)), some (.inl l1), some (.inl l2), some (.inl l3), some (.inl l4), none, none, none, none, none, none] [] σ) (hk23 : ∀ (l1 : Int32) (l2 : Int32) (l3 : Int32) (l4 : Int32) (l5 : Int32) (σ : ST), AW wlM yX5_findRow cX5_findRow 11 none rmX5_findRow emV (k23 l1 l2 l3 l4 l5 σ) 23 [some (.inr (some 0)), some (.inl l1), some (.inl l2), some (.inl l3), some (.inl l4), some (.inl l5), none, none, none, none, none] [] σ) (l1 : Int32) (l2 : Int32) (l3 : Int32) (l4 : Int32) (l5 : Int32) (l6 : Int32) (s0 : Int32) (σ : ST) : AW wlM yX5_findRow cX5_findRow 11 none rmX5_findRow emV (fX5_findRow_J103 k15 k23 l1 l2 l3 l4 l5 l6 s0 σ) 103 [some (.inr (some 0)), some (.inl l1), some (.inl l2), some (.inl l3), some (.inl l4), some (.inl l5), some (.inl l6), none, none, none, none] [.inl s0] σ := by
  unfold fX5_findRow_J103
  refine aw_st (pc := 103) (L' := [some (.inr (some 0)), some (.inl l1), some (.inl l2), some (.inl l3), some (.inl l4), some (.inl l5), some (.inl l6), none, some (.inl s0), none, none]) dX5_findRow_103 (by decide) rfl ?_
  refine aw_aload_n (pc := 105) dX5_findRow_105 rfl rfl ?_
  refine aw_get (pc := 106) (v := .inr (some 21)) foX5_78 (atM0 _) rfl dX5_findRow_106 ?_
  refine aw_bipush (pc := 109) (v := 10) dX5_findRow_109 (by decide) ?_
  refine aw_iload (pc := 111) dX5_findRow_111 rfl ?_
  refine aw_imul (pc := 113) dX5_findRow_113 ?_
  refine aw_iload (pc := 114) dX5_findRow_114 rfl ?_
  refine aw_iadd (pc := 116) dX5_findRow_116 ?_
  refine aw_iload (pc := 117) dX5_findRow_117 rfl ?_
  refine aw_ldc (pc := 119) lcX5_108 dX5_findRow_119 ?_
  refine aw_icmp_ge (pc := 121) (tgt := 142) dX5_findRow_121 (by decide) (fun _ => ?_) (fun _ => ?_)
  · refine aw_ldc (pc := 142) lcX5_108 dX5_findRow_142 ?_
    exact aw_wk (wk_same (wk_same (wk_same (wk_same (wk_same (wk_same (wk_none (wk_none (wk_none (wk_none (wk_none wk_nil))))))))))) (xX5_findRow_J144 k15 k23 hk15 hk23 l1 l2 l3 l4 l5 1000000000 ((10 * l4) + l5) σ)
  refine aw_aload_n (pc := 124) dX5_findRow_124 rfl rfl ?_
  refine aw_aload_n (pc := 125) dX5_findRow_125 rfl rfl ?_
  refine aw_get (pc := 126) (v := .inl (σ.1 0 31)) foX5_147 (atM0 _) rfl dX5_findRow_126 ?_
  refine aw_iload (pc := 129) dX5_findRow_129 rfl ?_
  refine aw_iload (pc := 131) dX5_findRow_131 rfl ?_
  refine aw_cVI (pc := 133) (st := [.inl ((10 * l4) + l5), .inr (some 21)]) (xX5_offOf (σ.1 0 31) l4 l6 σ) (atM0 _) rfl ckX5_150 ⟨rfl, rfl, by decide, by decide⟩ (Nat.le_of_ble_eq_true rfl) dX5_findRow_133 rfl (fun r23 σ24 => ?_)
  refine aw_iload (pc := 136) dX5_findRow_136 rfl ?_
  refine aw_iadd (pc := 138) dX5_findRow_138 ?_
  refine aw_goto (pc := 139) (tgt := 144) dX5_findRow_139 (by decide) ?_
  exact aw_wk (wk_same (wk_same (wk_same (wk_same (wk_same (wk_same (wk_none (wk_none (wk_none (wk_none (wk_none wk_nil))))))))))) (xX5_findRow_J144 k15 k23 hk15 hk23 l1 l2 l3 l4 l5 (r23 + s0) ((10 * l4) + l5) σ24)
noncomputable def fX5_findRow_J77 (k15 : Int32 → Int32 → Int32 → Int32 → ST → Option (Unit × ST)) (k23 : Int32 → Int32 → Int32 → Int32 → Int32 → ST → Option (Unit × ST)) (l1 : Int32) (l2 : Int32) (l3 : Int32) (l4 : Int32) (l5 : Int32) (l6 : Int32) (s0 : Int32) (σ : ST) : Option (Unit × ST) :=
  if s0 = 0 then (fX5_findRow_J103 k15 k23 l1 l2 l3 l4 l5 l6 1000000000 σ) else (cb (fX5_behind (l4 + 1) l4 l6 l1 l2 σ) (fun r25 σ26 => fX5_findRow_J103 k15 k23 l1 l2 l3 l4 l5 l6 r25 σ26))
set_option maxRecDepth 10000 in
theorem xX5_findRow_J77 (k15 : Int32 → Int32 → Int32 → Int32 → ST → Option (Unit × ST)) (k23 : Int32 → Int32 → Int32 → Int32 → Int32 → ST → Option (Unit × ST)) (hk15 : ∀ (l1 : Int32) (l2 : Int32) (l3 : Int32) (l4 : Int32) (σ : ST), AW wlM yX5_findRow cX5_findRow 11 none rmX5_findRow emV (k15 l1 l2 l3 l4 σ) 15 [some (.inr (some 0)), some (.inl l1), some (.inl l2), some (.inl l3), some (.inl l4), none, none, none, none, none, none] [] σ) (hk23 : ∀ (l1 : Int32) (l2 : Int32) (l3 : Int32) (l4 : Int32) (l5 : Int32) (σ : ST), AW wlM yX5_findRow cX5_findRow 11 none rmX5_findRow emV (k23 l1 l2 l3 l4 l5 σ) 23 [some (.inr (some 0)), some (.inl l1), some (.inl l2), some (.inl l3), some (.inl l4), some (.inl l5), none, none, none, none, none] [] σ) (l1 : Int32) (l2 : Int32) (l3 : Int32) (l4 : Int32) (l5 : Int32) (l6 : Int32) (s0 : Int32) (σ : ST) : AW wlM yX5_findRow cX5_findRow 11 none rmX5_findRow emV (fX5_findRow_J77 k15 k23 l1 l2 l3 l4 l5 l6 s0 σ) 77 [some (.inr (some 0)), some (.inl l1), some (.inl l2), some (.inl l3), some (.inl l4), some (.inl l5), some (.inl l6), none, none, none, none] [.inl s0] σ := by
  unfold fX5_findRow_J77
  refine aw_st (pc := 77) (L' := [some (.inr (some 0)), some (.inl l1), some (.inl l2), some (.inl l3), some (.inl l4), some (.inl l5), some (.inl l6), some (.inl s0), none, none, none]) dX5_findRow_77 (by decide) rfl ?_
  refine aw_iload (pc := 79) dX5_findRow_79 rfl ?_
  refine aw_if_eq (pc := 81) (tgt := 101) dX5_findRow_81 (by decide) (fun _ => ?_) (fun _ => ?_)
  · refine aw_ldc (pc := 101) lcX5_108 dX5_findRow_101 ?_
    exact aw_wk (wk_same (wk_same (wk_same (wk_same (wk_same (wk_same (wk_same (wk_none (wk_none (wk_none (wk_none wk_nil))))))))))) (xX5_findRow_J103 k15 k23 hk15 hk23 l1 l2 l3 l4 l5 l6 1000000000 σ)
  refine aw_aload_n (pc := 84) dX5_findRow_84 rfl rfl ?_
  refine aw_iload (pc := 85) dX5_findRow_85 rfl ?_
  refine aw_iconst (pc := 87) (v := 1) dX5_findRow_87 (by decide) ?_
  refine aw_iadd (pc := 88) dX5_findRow_88 ?_
  refine aw_iload (pc := 89) dX5_findRow_89 rfl ?_
  refine aw_iload (pc := 91) dX5_findRow_91 rfl ?_
  refine aw_iload_n (pc := 93) dX5_findRow_93 rfl rfl ?_
  refine aw_iload_n (pc := 94) dX5_findRow_94 rfl rfl ?_
  refine aw_cVI (pc := 95) (st := []) (xX5_behind (l4 + 1) l4 l6 l1 l2 σ) (atM0 _) rfl ckX5_165 ⟨rfl, rfl, by decide, by decide⟩ (Nat.le_of_ble_eq_true rfl) dX5_findRow_95 rfl (fun r25 σ26 => ?_)
  refine aw_goto (pc := 98) (tgt := 103) dX5_findRow_98 (by decide) ?_
  exact aw_wk (wk_same (wk_same (wk_same (wk_same (wk_same (wk_same (wk_same (wk_none (wk_none (wk_none (wk_none wk_nil))))))))))) (xX5_findRow_J103 k15 k23 hk15 hk23 l1 l2 l3 l4 l5 l6 r25 σ26)
noncomputable def fX5_findRow_J72 (k15 : Int32 → Int32 → Int32 → Int32 → ST → Option (Unit × ST)) (k23 : Int32 → Int32 → Int32 → Int32 → Int32 → ST → Option (Unit × ST)) (l1 : Int32) (l2 : Int32) (l3 : Int32) (l4 : Int32) (l5 : Int32) (l6 : Int32) (σ : ST) : Option (Unit × ST) :=
  fX5_findRow_J77 k15 k23 l1 l2 l3 l4 l5 l6 1 σ
set_option maxRecDepth 10000 in
theorem xX5_findRow_J72 (k15 : Int32 → Int32 → Int32 → Int32 → ST → Option (Unit × ST)) (k23 : Int32 → Int32 → Int32 → Int32 → Int32 → ST → Option (Unit × ST)) (hk15 : ∀ (l1 : Int32) (l2 : Int32) (l3 : Int32) (l4 : Int32) (σ : ST), AW wlM yX5_findRow cX5_findRow 11 none rmX5_findRow emV (k15 l1 l2 l3 l4 σ) 15 [some (.inr (some 0)), some (.inl l1), some (.inl l2), some (.inl l3), some (.inl l4), none, none, none, none, none, none] [] σ) (hk23 : ∀ (l1 : Int32) (l2 : Int32) (l3 : Int32) (l4 : Int32) (l5 : Int32) (σ : ST), AW wlM yX5_findRow cX5_findRow 11 none rmX5_findRow emV (k23 l1 l2 l3 l4 l5 σ) 23 [some (.inr (some 0)), some (.inl l1), some (.inl l2), some (.inl l3), some (.inl l4), some (.inl l5), none, none, none, none, none] [] σ) (l1 : Int32) (l2 : Int32) (l3 : Int32) (l4 : Int32) (l5 : Int32) (l6 : Int32) (σ : ST) : AW wlM yX5_findRow cX5_findRow 11 none rmX5_findRow emV (fX5_findRow_J72 k15 k23 l1 l2 l3 l4 l5 l6 σ) 72 [some (.inr (some 0)), some (.inl l1), some (.inl l2), some (.inl l3), some (.inl l4), some (.inl l5), some (.inl l6), none, none, none, none] [] σ := by
  unfold fX5_findRow_J72
  refine aw_iconst (pc := 72) (v := 1) dX5_findRow_72 (by decide) ?_
  refine aw_goto (pc := 73) (tgt := 77) dX5_findRow_73 (by decide) ?_
  exact aw_wk (wk_same (wk_same (wk_same (wk_same (wk_same (wk_same (wk_same (wk_none (wk_none (wk_none (wk_none wk_nil))))))))))) (xX5_findRow_J77 k15 k23 hk15 hk23 l1 l2 l3 l4 l5 l6 1 σ)
noncomputable def fX5_findRow_J76 (k15 : Int32 → Int32 → Int32 → Int32 → ST → Option (Unit × ST)) (k23 : Int32 → Int32 → Int32 → Int32 → Int32 → ST → Option (Unit × ST)) (l1 : Int32) (l2 : Int32) (l3 : Int32) (l4 : Int32) (l5 : Int32) (l6 : Int32) (σ : ST) : Option (Unit × ST) :=
  fX5_findRow_J77 k15 k23 l1 l2 l3 l4 l5 l6 0 σ
set_option maxRecDepth 10000 in
theorem xX5_findRow_J76 (k15 : Int32 → Int32 → Int32 → Int32 → ST → Option (Unit × ST)) (k23 : Int32 → Int32 → Int32 → Int32 → Int32 → ST → Option (Unit × ST)) (hk15 : ∀ (l1 : Int32) (l2 : Int32) (l3 : Int32) (l4 : Int32) (σ : ST), AW wlM yX5_findRow cX5_findRow 11 none rmX5_findRow emV (k15 l1 l2 l3 l4 σ) 15 [some (.inr (some 0)), some (.inl l1), some (.inl l2), some (.inl l3), some (.inl l4), none, none, none, none, none, none] [] σ) (hk23 : ∀ (l1 : Int32) (l2 : Int32) (l3 : Int32) (l4 : Int32) (l5 : Int32) (σ : ST), AW wlM yX5_findRow cX5_findRow 11 none rmX5_findRow emV (k23 l1 l2 l3 l4 l5 σ) 23 [some (.inr (some 0)), some (.inl l1), some (.inl l2), some (.inl l3), some (.inl l4), some (.inl l5), none, none, none, none, none] [] σ) (l1 : Int32) (l2 : Int32) (l3 : Int32) (l4 : Int32) (l5 : Int32) (l6 : Int32) (σ : ST) : AW wlM yX5_findRow cX5_findRow 11 none rmX5_findRow emV (fX5_findRow_J76 k15 k23 l1 l2 l3 l4 l5 l6 σ) 76 [some (.inr (some 0)), some (.inl l1), some (.inl l2), some (.inl l3), some (.inl l4), some (.inl l5), some (.inl l6), none, none, none, none] [] σ := by
  unfold fX5_findRow_J76
  refine aw_iconst (pc := 76) (v := 0) dX5_findRow_76 (by decide) ?_
  exact aw_wk (wk_same (wk_same (wk_same (wk_same (wk_same (wk_same (wk_same (wk_none (wk_none (wk_none (wk_none wk_nil))))))))))) (xX5_findRow_J77 k15 k23 hk15 hk23 l1 l2 l3 l4 l5 l6 0 σ)
noncomputable def fX5_findRow_B23 (k15 : Int32 → Int32 → Int32 → Int32 → ST → Option (Unit × ST)) (k23 : Int32 → Int32 → Int32 → Int32 → Int32 → ST → Option (Unit × ST)) (l1 : Int32) (l2 : Int32) (l3 : Int32) (l4 : Int32) (l5 : Int32) (σ : ST) : Option (Unit × ST) :=
  if ib l4 20 = true then if (σ.1 20 l4.toNatClampNeg) ≤ l5 then (bindv (l4 + (-1)) (fun v19 => k15 l1 l2 l3 v19 σ)) else (if ib ((10 * l4) + l5) 200 = true then bindv (σ.1 19 ((10 * l4) + l5).toNatClampNeg) (fun v20 => if l1 < 0 then (fX5_findRow_J72 k15 k23 l1 l2 l3 l4 l5 v20 σ) else (if l4 < l1 then (fX5_findRow_J72 k15 k23 l1 l2 l3 l4 l5 v20 σ) else (if l4 = l1 then (if v20 = l2 then (fX5_findRow_J72 k15 k23 l1 l2 l3 l4 l5 v20 σ) else (fX5_findRow_J76 k15 k23 l1 l2 l3 l4 l5 v20 σ)) else (fX5_findRow_J76 k15 k23 l1 l2 l3 l4 l5 v20 σ)))) else none) else none
set_option maxRecDepth 10000 in
theorem xX5_findRow_B23 (k15 : Int32 → Int32 → Int32 → Int32 → ST → Option (Unit × ST)) (k23 : Int32 → Int32 → Int32 → Int32 → Int32 → ST → Option (Unit × ST)) (hk15 : ∀ (l1 : Int32) (l2 : Int32) (l3 : Int32) (l4 : Int32) (σ : ST), AW wlM yX5_findRow cX5_findRow 11 none rmX5_findRow emV (k15 l1 l2 l3 l4 σ) 15 [some (.inr (some 0)), some (.inl l1), some (.inl l2), some (.inl l3), some (.inl l4), none, none, none, none, none, none] [] σ) (hk23 : ∀ (l1 : Int32) (l2 : Int32) (l3 : Int32) (l4 : Int32) (l5 : Int32) (σ : ST), AW wlM yX5_findRow cX5_findRow 11 none rmX5_findRow emV (k23 l1 l2 l3 l4 l5 σ) 23 [some (.inr (some 0)), some (.inl l1), some (.inl l2), some (.inl l3), some (.inl l4), some (.inl l5), none, none, none, none, none] [] σ) (l1 : Int32) (l2 : Int32) (l3 : Int32) (l4 : Int32) (l5 : Int32) (σ : ST) : AW wlM yX5_findRow cX5_findRow 11 none rmX5_findRow emV (fX5_findRow_B23 k15 k23 l1 l2 l3 l4 l5 σ) 23 [some (.inr (some 0)), some (.inl l1), some (.inl l2), some (.inl l3), some (.inl l4), some (.inl l5), none, none, none, none, none] [] σ := by
  unfold fX5_findRow_B23
  refine aw_iload (pc := 23) dX5_findRow_23 rfl ?_
  refine aw_aload_n (pc := 25) dX5_findRow_25 rfl rfl ?_
  refine aw_get (pc := 26) (v := .inr (some 20)) foX5_75 (atM0 _) rfl dX5_findRow_26 ?_
  refine aw_iload (pc := 29) dX5_findRow_29 rfl ?_
  refine aw_iald' (pc := 31) (atM20 _) dX5_findRow_31 ?_
  refine aw_icmp_ge (pc := 32) (tgt := 151) dX5_findRow_32 (by decide) (fun _ => ?_) (fun _ => ?_)
  · refine aw_iincB (pc := 151) (v := (-1)) (Lf := fun v19 => [some (.inr (some 0)), some (.inl l1), some (.inl l2), some (.inl l3), some (.inl v19), some (.inl l5), none, none, none, none, none]) dX5_findRow_151 rfl (by decide) (by decide) (fun _ => rfl) (fun v19 => ?_)
    refine aw_goto (pc := 154) (tgt := 15) dX5_findRow_154 (by decide) ?_
    exact aw_wk (wk_same (wk_same (wk_same (wk_same (wk_same (wk_none (wk_none (wk_none (wk_none (wk_none (wk_none wk_nil))))))))))) (hk15 l1 l2 l3 v19 σ)
  refine aw_aload_n (pc := 35) dX5_findRow_35 rfl rfl ?_
  refine aw_get (pc := 36) (v := .inr (some 19)) foX5_72 (atM0 _) rfl dX5_findRow_36 ?_
  refine aw_bipush (pc := 39) (v := 10) dX5_findRow_39 (by decide) ?_
  refine aw_iload (pc := 41) dX5_findRow_41 rfl ?_
  refine aw_imul (pc := 43) dX5_findRow_43 ?_
  refine aw_iload (pc := 44) dX5_findRow_44 rfl ?_
  refine aw_iadd (pc := 46) dX5_findRow_46 ?_
  refine aw_iald' (pc := 47) (atM19 _) dX5_findRow_47 ?_
  refine aw_stB (pc := 48) (Lf := fun v20 => [some (.inr (some 0)), some (.inl l1), some (.inl l2), some (.inl l3), some (.inl l4), some (.inl l5), some (.inl v20), none, none, none, none]) dX5_findRow_48 (by decide) (fun _ => rfl) (fun v20 => ?_)
  refine aw_iload_n (pc := 50) dX5_findRow_50 rfl rfl ?_
  refine aw_if_lt (pc := 51) (tgt := 72) dX5_findRow_51 (by decide) (fun _ => ?_) (fun _ => ?_)
  · exact aw_wk (wk_same (wk_same (wk_same (wk_same (wk_same (wk_same (wk_same (wk_none (wk_none (wk_none (wk_none wk_nil))))))))))) (xX5_findRow_J72 k15 k23 hk15 hk23 l1 l2 l3 l4 l5 v20 σ)
  refine aw_iload (pc := 54) dX5_findRow_54 rfl ?_
  refine aw_iload_n (pc := 56) dX5_findRow_56 rfl rfl ?_
  refine aw_icmp_lt (pc := 57) (tgt := 72) dX5_findRow_57 (by decide) (fun _ => ?_) (fun _ => ?_)
  · exact aw_wk (wk_same (wk_same (wk_same (wk_same (wk_same (wk_same (wk_same (wk_none (wk_none (wk_none (wk_none wk_nil))))))))))) (xX5_findRow_J72 k15 k23 hk15 hk23 l1 l2 l3 l4 l5 v20 σ)
  refine aw_iload (pc := 60) dX5_findRow_60 rfl ?_
  refine aw_iload_n (pc := 62) dX5_findRow_62 rfl rfl ?_
  refine aw_icmp_ne (pc := 63) (tgt := 76) dX5_findRow_63 (by decide) (fun _ => ?_) (fun _ => ?_)
  · refine aw_iload (pc := 66) dX5_findRow_66 rfl ?_
    refine aw_iload_n (pc := 68) dX5_findRow_68 rfl rfl ?_
    refine aw_icmp_ne (pc := 69) (tgt := 76) dX5_findRow_69 (by decide) (fun _ => ?_) (fun _ => ?_)
    · exact aw_wk (wk_same (wk_same (wk_same (wk_same (wk_same (wk_same (wk_same (wk_none (wk_none (wk_none (wk_none wk_nil))))))))))) (xX5_findRow_J72 k15 k23 hk15 hk23 l1 l2 l3 l4 l5 v20 σ)
    exact aw_wk (wk_same (wk_same (wk_same (wk_same (wk_same (wk_same (wk_same (wk_none (wk_none (wk_none (wk_none wk_nil))))))))))) (xX5_findRow_J76 k15 k23 hk15 hk23 l1 l2 l3 l4 l5 v20 σ)
  exact aw_wk (wk_same (wk_same (wk_same (wk_same (wk_same (wk_same (wk_same (wk_none (wk_none (wk_none (wk_none wk_nil))))))))))) (xX5_findRow_J76 k15 k23 hk15 hk23 l1 l2 l3 l4 l5 v20 σ)
noncomputable def fX5_findRow_L23 (k15 : Int32 → Int32 → Int32 → Int32 → ST → Option (Unit × ST)) (n : Nat) (l1 : Int32) (l2 : Int32) (l3 : Int32) (l4 : Int32) (l5 : Int32) (σ : ST) : Option (Unit × ST) := loopN (α := Int32 × Int32 × Int32 × Int32 × Int32 × ST) (fun k a => fX5_findRow_B23 k15 (fun l1 l2 l3 l4 l5 σ => k (l1, l2, l3, l4, l5, σ)) a.1 a.2.1 a.2.2.1 a.2.2.2.1 a.2.2.2.2.1 a.2.2.2.2.2) n (l1, l2, l3, l4, l5, σ)
theorem xX5_findRow_L23 (k15 : Int32 → Int32 → Int32 → Int32 → ST → Option (Unit × ST)) (hk15 : ∀ (l1 : Int32) (l2 : Int32) (l3 : Int32) (l4 : Int32) (σ : ST), AW wlM yX5_findRow cX5_findRow 11 none rmX5_findRow emV (k15 l1 l2 l3 l4 σ) 15 [some (.inr (some 0)), some (.inl l1), some (.inl l2), some (.inl l3), some (.inl l4), none, none, none, none, none, none] [] σ) (n : Nat) (l1 : Int32) (l2 : Int32) (l3 : Int32) (l4 : Int32) (l5 : Int32) (σ : ST) : AW wlM yX5_findRow cX5_findRow 11 none rmX5_findRow emV (fX5_findRow_L23 k15 n l1 l2 l3 l4 l5 σ) 23 [some (.inr (some 0)), some (.inl l1), some (.inl l2), some (.inl l3), some (.inl l4), some (.inl l5), none, none, none, none, none] [] σ :=
  aw_loop (α := Int32 × Int32 × Int32 × Int32 × Int32 × ST) (Lf := fun a => [some (.inr (some 0)), some (.inl (a.1)), some (.inl (a.2.1)), some (.inl (a.2.2.1)), some (.inl (a.2.2.2.1)), some (.inl (a.2.2.2.2.1)), none, none, none, none, none]) (sf := fun a => a.2.2.2.2.2) (fun k hk a => by
    obtain ⟨l1, l2, l3, l4, l5, σ⟩ := a
    exact xX5_findRow_B23 k15 (fun l1 l2 l3 l4 l5 σ => k (l1, l2, l3, l4, l5, σ)) hk15 (fun l1 l2 l3 l4 l5 σ => hk (l1, l2, l3, l4, l5, σ)) l1 l2 l3 l4 l5 σ) n (l1, l2, l3, l4, l5, σ)
noncomputable def fX5_findRow_B15 (k15 : Int32 → Int32 → Int32 → Int32 → ST → Option (Unit × ST)) (l1 : Int32) (l2 : Int32) (l3 : Int32) (l4 : Int32) (σ : ST) : Option (Unit × ST) :=
  if l4 < 0 then (cb (fX5_behind 0 (-1) (-1) l1 l2 σ) (fun r3 σ4 => bindv (stI σ4 0 30 r3) (fun σ5 => bindv (σ5.1 0 30) (fun v6 => fX5_findRow_L185 FU l3 (-1) (-1) v6 0 σ5)))) else (fX5_findRow_L23 k15 FU l1 l2 l3 l4 0 σ)
set_option maxRecDepth 10000 in
theorem xX5_findRow_B15 (k15 : Int32 → Int32 → Int32 → Int32 → ST → Option (Unit × ST)) (hk15 : ∀ (l1 : Int32) (l2 : Int32) (l3 : Int32) (l4 : Int32) (σ : ST), AW wlM yX5_findRow cX5_findRow 11 none rmX5_findRow emV (k15 l1 l2 l3 l4 σ) 15 [some (.inr (some 0)), some (.inl l1), some (.inl l2), some (.inl l3), some (.inl l4), none, none, none, none, none, none] [] σ) (l1 : Int32) (l2 : Int32) (l3 : Int32) (l4 : Int32) (σ : ST) : AW wlM yX5_findRow cX5_findRow 11 none rmX5_findRow emV (fX5_findRow_B15 k15 l1 l2 l3 l4 σ) 15 [some (.inr (some 0)), some (.inl l1), some (.inl l2), some (.inl l3), some (.inl l4), none, none, none, none, none, none] [] σ := by
  unfold fX5_findRow_B15
  refine aw_iload (pc := 15) dX5_findRow_15 rfl ?_
  refine aw_if_lt (pc := 17) (tgt := 157) dX5_findRow_17 (by decide) (fun _ => ?_) (fun _ => ?_)
  · refine aw_aload_n (pc := 157) dX5_findRow_157 rfl rfl ?_
    refine aw_aload_n (pc := 158) dX5_findRow_158 rfl rfl ?_
    refine aw_iconst (pc := 159) (v := 0) dX5_findRow_159 (by decide) ?_
    refine aw_iconst (pc := 160) (v := (-1)) dX5_findRow_160 (by decide) ?_
    refine aw_iconst (pc := 161) (v := (-1)) dX5_findRow_161 (by decide) ?_
    refine aw_iload_n (pc := 162) dX5_findRow_162 rfl rfl ?_
    refine aw_iload_n (pc := 163) dX5_findRow_163 rfl rfl ?_
    refine aw_cVI (pc := 164) (st := [.inr (some 0)]) (xX5_behind 0 (-1) (-1) l1 l2 σ) (atM0 _) rfl ckX5_165 ⟨rfl, rfl, by decide, by decide⟩ (Nat.le_of_ble_eq_true rfl) dX5_findRow_164 rfl (fun r3 σ4 => ?_)
    refine aw_putI (pc := 167) fwX5_169 (atM0 _) (Nat.le_of_ble_eq_true rfl) (stM0_30 _ _) dX5_findRow_167 (fun σ5 => ?_)
    refine aw_iconst (pc := 170) (v := (-1)) dX5_findRow_170 (by decide) ?_
    refine aw_st (pc := 171) (L' := [some (.inr (some 0)), some (.inl l1), some (.inl l2), some (.inl l3), some (.inl (-1)), none, none, none, none, none, none]) dX5_findRow_171 (by decide) rfl ?_
    refine aw_iconst (pc := 173) (v := (-1)) dX5_findRow_173 (by decide) ?_
    refine aw_st (pc := 174) (L' := [some (.inr (some 0)), some (.inl l1), some (.inl l2), some (.inl l3), some (.inl (-1)), some (.inl (-1)), none, none, none, none, none]) dX5_findRow_174 (by decide) rfl ?_
    refine aw_aload_n (pc := 176) dX5_findRow_176 rfl rfl ?_
    refine aw_get (pc := 177) (v := .inl (σ5.1 0 30)) foX5_169 (atM0 _) rfl dX5_findRow_177 ?_
    refine aw_stB (pc := 180) (Lf := fun v6 => [some (.inr (some 0)), some (.inl l1), some (.inl l2), some (.inl l3), some (.inl (-1)), some (.inl (-1)), some (.inl v6), none, none, none, none]) dX5_findRow_180 (by decide) (fun _ => rfl) (fun v6 => ?_)
    refine aw_iconst (pc := 182) (v := 0) dX5_findRow_182 (by decide) ?_
    refine aw_st (pc := 183) (L' := [some (.inr (some 0)), some (.inl l1), some (.inl l2), some (.inl l3), some (.inl (-1)), some (.inl (-1)), some (.inl v6), some (.inl 0), none, none, none]) dX5_findRow_183 (by decide) rfl ?_
    exact aw_wk (wk_same (wk_none (wk_none (wk_same (wk_same (wk_same (wk_same (wk_same (wk_none (wk_none (wk_none wk_nil))))))))))) (xX5_findRow_L185 FU l3 (-1) (-1) v6 0 σ5)
  refine aw_iconst (pc := 20) (v := 0) dX5_findRow_20 (by decide) ?_
  refine aw_st (pc := 21) (L' := [some (.inr (some 0)), some (.inl l1), some (.inl l2), some (.inl l3), some (.inl l4), some (.inl 0), none, none, none, none, none]) dX5_findRow_21 (by decide) rfl ?_
  exact aw_wk (wk_same (wk_same (wk_same (wk_same (wk_same (wk_same (wk_none (wk_none (wk_none (wk_none (wk_none wk_nil))))))))))) (xX5_findRow_L23 k15 hk15 FU l1 l2 l3 l4 0 σ)
noncomputable def fX5_findRow_L15 (n : Nat) (l1 : Int32) (l2 : Int32) (l3 : Int32) (l4 : Int32) (σ : ST) : Option (Unit × ST) := loopN (α := Int32 × Int32 × Int32 × Int32 × ST) (fun k a => fX5_findRow_B15 (fun l1 l2 l3 l4 σ => k (l1, l2, l3, l4, σ)) a.1 a.2.1 a.2.2.1 a.2.2.2.1 a.2.2.2.2) n (l1, l2, l3, l4, σ)
theorem xX5_findRow_L15 (n : Nat) (l1 : Int32) (l2 : Int32) (l3 : Int32) (l4 : Int32) (σ : ST) : AW wlM yX5_findRow cX5_findRow 11 none rmX5_findRow emV (fX5_findRow_L15 n l1 l2 l3 l4 σ) 15 [some (.inr (some 0)), some (.inl l1), some (.inl l2), some (.inl l3), some (.inl l4), none, none, none, none, none, none] [] σ :=
  aw_loop (α := Int32 × Int32 × Int32 × Int32 × ST) (Lf := fun a => [some (.inr (some 0)), some (.inl (a.1)), some (.inl (a.2.1)), some (.inl (a.2.2.1)), some (.inl (a.2.2.2.1)), none, none, none, none, none, none]) (sf := fun a => a.2.2.2.2) (fun k hk a => by
    obtain ⟨l1, l2, l3, l4, σ⟩ := a
    exact xX5_findRow_B15 (fun l1 l2 l3 l4 σ => k (l1, l2, l3, l4, σ)) (fun l1 l2 l3 l4 σ => hk (l1, l2, l3, l4, σ)) l1 l2 l3 l4 σ) n (l1, l2, l3, l4, σ)
noncomputable def fX5_findRow (a1 : Int32) (a2 : Int32) (σ : ST) : Option (Unit × ST) :=
  if ib (σ.1 0 31) 6 = true then bindv (σ.1 13 (σ.1 0 31).toNatClampNeg) (fun v1 => bindv (v1 - 1) (fun v2 => fX5_findRow_L15 FU a1 a2 v1 v2 σ)) else none
set_option maxRecDepth 10000 in
theorem xX5_findRow (a1 : Int32) (a2 : Int32) (σ : ST) : MS wlM yX5_findRow cX5_findRow 11 none rmX5_findRow emV [.inr (some 0), .inl a1, .inl a2] σ (fX5_findRow a1 a2 σ) := by
  refine MS.of (by decide +kernel) (Nat.le_of_ble_eq_true rfl) ?_
  show AW wlM yX5_findRow cX5_findRow 11 none rmX5_findRow emV (fX5_findRow a1 a2 σ) 0 [some (.inr (some 0)), some (.inl a1), some (.inl a2), none, none, none, none, none, none, none, none] [] σ
  unfold fX5_findRow
  refine aw_aload_n (pc := 0) dX5_findRow_0 rfl rfl ?_
  refine aw_get (pc := 1) (v := .inr (some 13)) foX5_47 (atM0 _) rfl dX5_findRow_1 ?_
  refine aw_aload_n (pc := 4) dX5_findRow_4 rfl rfl ?_
  refine aw_get (pc := 5) (v := .inl (σ.1 0 31)) foX5_147 (atM0 _) rfl dX5_findRow_5 ?_
  refine aw_iald' (pc := 8) (atM13 _) dX5_findRow_8 ?_
  refine aw_stnB (pc := 9) (Lf := fun v1 => [some (.inr (some 0)), some (.inl a1), some (.inl a2), some (.inl v1), none, none, none, none, none, none, none]) dX5_findRow_9 rfl (by decide) (fun _ => rfl) (fun v1 => ?_)
  refine aw_iload_n (pc := 10) dX5_findRow_10 rfl rfl ?_
  refine aw_iconst (pc := 11) (v := 1) dX5_findRow_11 (by decide) ?_
  refine aw_isub (pc := 12) dX5_findRow_12 ?_
  refine aw_stB (pc := 13) (Lf := fun v2 => [some (.inr (some 0)), some (.inl a1), some (.inl a2), some (.inl v1), some (.inl v2), none, none, none, none, none, none]) dX5_findRow_13 (by decide) (fun _ => rfl) (fun v2 => ?_)
  exact aw_wk (wk_same (wk_same (wk_same (wk_same (wk_same (wk_none (wk_none (wk_none (wk_none (wk_none (wk_none wk_nil))))))))))) (xX5_findRow_L15 FU a1 a2 v1 v2 σ)
abbrev rmX5_lay : Room := { frames := 4, cells := 0, slots := 0, locals := 93 }
noncomputable def fX5_lay (a1 : Int32) (σ : ST) : Option (Unit × ST) :=
  cb (fX5_findWays σ) (fun r1 σ2 => cb (fX5_findSpots a1 σ2) (fun r3 σ4 => cb (fX5_findRow (-1) (-1) σ4) (fun r5 σ6 => some ((), σ6))))
set_option maxRecDepth 10000 in
theorem xX5_lay (a1 : Int32) (σ : ST) : MS wlM yX5_lay cX5_lay 2 none rmX5_lay emV [.inr (some 0), .inl a1] σ (fX5_lay a1 σ) := by
  refine MS.of (by decide +kernel) (Nat.le_of_ble_eq_true rfl) ?_
  show AW wlM yX5_lay cX5_lay 2 none rmX5_lay emV (fX5_lay a1 σ) 0 [some (.inr (some 0)), some (.inl a1)] [] σ
  unfold fX5_lay
  refine aw_aload_n (pc := 0) dX5_lay_0 rfl rfl ?_
  refine aw_cVV (pc := 1) (st := []) (xX5_findWays σ) (atM0 _) rfl ckX5_138 ⟨rfl, rfl, by decide, by decide⟩ (Nat.le_of_ble_eq_true rfl) dX5_lay_1 rfl (fun r1 σ2 => ?_)
  refine aw_aload_n (pc := 4) dX5_lay_4 rfl rfl ?_
  refine aw_iload_n (pc := 5) dX5_lay_5 rfl rfl ?_
  refine aw_cVV (pc := 6) (st := []) (xX5_findSpots a1 σ2) (atM0 _) rfl ckX5_158 ⟨rfl, rfl, by decide, by decide⟩ (Nat.le_of_ble_eq_true rfl) dX5_lay_6 rfl (fun r3 σ4 => ?_)
  refine aw_aload_n (pc := 9) dX5_lay_9 rfl rfl ?_
  refine aw_iconst (pc := 10) (v := (-1)) dX5_lay_10 (by decide) ?_
  refine aw_iconst (pc := 11) (v := (-1)) dX5_lay_11 (by decide) ?_
  refine aw_cVV (pc := 12) (st := []) (xX5_findRow (-1) (-1) σ4) (atM0 _) rfl ckX5_172 ⟨rfl, rfl, by decide, by decide⟩ (Nat.le_of_ble_eq_true rfl) dX5_lay_12 rfl (fun r5 σ6 => ?_)
  exact aw_ret_v (pc := 15) rfl rfl dX5_lay_15
abbrev rmX5_cost : Room := { frames := 5, cells := 0, slots := 0, locals := 114 }
noncomputable def fX5_cost (a1 : Int32) (σ : ST) : Option (Int32 × ST) :=
  cb (fX5_isDrive a1 σ) (fun r1 σ2 => if r1 = 0 then (some ((-1), σ2)) else (cb (fX5_lay a1 σ2) (fun r3 σ4 => some ((σ4.1 0 30), σ4))))
set_option maxRecDepth 10000 in
theorem xX5_cost (a1 : Int32) (σ : ST) : MS wlM yX5_cost cX5_cost 2 (some .int) rmX5_cost emI [.inr (some 0), .inl a1] σ (fX5_cost a1 σ) := by
  refine MS.of (by decide +kernel) (Nat.le_of_ble_eq_true rfl) ?_
  show AW wlM yX5_cost cX5_cost 2 (some .int) rmX5_cost emI (fX5_cost a1 σ) 0 [some (.inr (some 0)), some (.inl a1)] [] σ
  unfold fX5_cost
  refine aw_aload_n (pc := 0) dX5_cost_0 rfl rfl ?_
  refine aw_iload_n (pc := 1) dX5_cost_1 rfl rfl ?_
  refine aw_cVI (pc := 2) (st := []) (xX5_isDrive a1 σ) (atM0 _) rfl ckX5_144 ⟨rfl, rfl, by decide, by decide⟩ (Nat.le_of_ble_eq_true rfl) dX5_cost_2 rfl (fun r1 σ2 => ?_)
  refine aw_if_ne (pc := 5) (tgt := 10) dX5_cost_5 (by decide) (fun _ => ?_) (fun _ => ?_)
  · refine aw_iconst (pc := 8) (v := (-1)) dX5_cost_8 (by decide) ?_
    exact aw_ret_i (pc := 9) rfl rfl rfl dX5_cost_9
  refine aw_aload_n (pc := 10) dX5_cost_10 rfl rfl ?_
  refine aw_iload_n (pc := 11) dX5_cost_11 rfl rfl ?_
  refine aw_cVV (pc := 12) (st := []) (xX5_lay a1 σ2) (atM0 _) rfl ckX5_175 ⟨rfl, rfl, by decide, by decide⟩ (Nat.le_of_ble_eq_true rfl) dX5_cost_12 rfl (fun r3 σ4 => ?_)
  refine aw_aload_n (pc := 15) dX5_cost_15 rfl rfl ?_
  refine aw_get (pc := 16) (v := .inl (σ4.1 0 30)) foX5_169 (atM0 _) rfl dX5_cost_16 ?_
  exact aw_ret_i (pc := 19) rfl rfl rfl dX5_cost_19
abbrev rmX5_laid : Room := { frames := 5, cells := 0, slots := 0, locals := 114 }
noncomputable def fX5_laid (a1 : Int32) (a2 : Int32) (σ : ST) : Option (Int32 × ST) :=
  cb (fX5_isSight a1 a2 σ) (fun r1 σ2 => if r1 = 0 then (some ((-1), σ2)) else (cb (fX5_lay a1 σ2) (fun r3 σ4 => if ib a2 20 = true then some ((σ4.1 22 a2.toNatClampNeg), σ4) else none)))
set_option maxRecDepth 10000 in
theorem xX5_laid (a1 : Int32) (a2 : Int32) (σ : ST) : MS wlM yX5_laid cX5_laid 3 (some .int) rmX5_laid emI [.inr (some 0), .inl a1, .inl a2] σ (fX5_laid a1 a2 σ) := by
  refine MS.of (by decide +kernel) (Nat.le_of_ble_eq_true rfl) ?_
  show AW wlM yX5_laid cX5_laid 3 (some .int) rmX5_laid emI (fX5_laid a1 a2 σ) 0 [some (.inr (some 0)), some (.inl a1), some (.inl a2)] [] σ
  unfold fX5_laid
  refine aw_aload_n (pc := 0) dX5_laid_0 rfl rfl ?_
  refine aw_iload_n (pc := 1) dX5_laid_1 rfl rfl ?_
  refine aw_iload_n (pc := 2) dX5_laid_2 rfl rfl ?_
  refine aw_cVI (pc := 3) (st := []) (xX5_isSight a1 a2 σ) (atM0 _) rfl ckX5_154 ⟨rfl, rfl, by decide, by decide⟩ (Nat.le_of_ble_eq_true rfl) dX5_laid_3 rfl (fun r1 σ2 => ?_)
  refine aw_if_ne (pc := 6) (tgt := 11) dX5_laid_6 (by decide) (fun _ => ?_) (fun _ => ?_)
  · refine aw_iconst (pc := 9) (v := (-1)) dX5_laid_9 (by decide) ?_
    exact aw_ret_i (pc := 10) rfl rfl rfl dX5_laid_10
  refine aw_aload_n (pc := 11) dX5_laid_11 rfl rfl ?_
  refine aw_iload_n (pc := 12) dX5_laid_12 rfl rfl ?_
  refine aw_cVV (pc := 13) (st := []) (xX5_lay a1 σ2) (atM0 _) rfl ckX5_175 ⟨rfl, rfl, by decide, by decide⟩ (Nat.le_of_ble_eq_true rfl) dX5_laid_13 rfl (fun r3 σ4 => ?_)
  refine aw_aload_n (pc := 16) dX5_laid_16 rfl rfl ?_
  refine aw_get (pc := 17) (v := .inr (some 22)) foX5_81 (atM0 _) rfl dX5_laid_17 ?_
  refine aw_iload_n (pc := 20) dX5_laid_20 rfl rfl ?_
  refine aw_iald' (pc := 21) (atM22 _) dX5_laid_21 ?_
  exact aw_ret_i (pc := 22) rfl rfl rfl dX5_laid_22
abbrev rmX5_isSpot : Room := { frames := 0, cells := 0, slots := 0, locals := 0 }
noncomputable def fX5_isSpot_J51 (k15 : Int32 → Int32 → Int32 → Int32 → ST → Option (Int32 × ST)) (l1 : Int32) (l2 : Int32) (l4 : Int32) (s0 : Int32) (σ : ST) : Option (Int32 × ST) :=
  bindv (l4 + 1) (fun v1 => k15 l1 l2 s0 v1 σ)
set_option maxRecDepth 10000 in
theorem xX5_isSpot_J51 (k15 : Int32 → Int32 → Int32 → Int32 → ST → Option (Int32 × ST)) (hk15 : ∀ (l1 : Int32) (l2 : Int32) (l3 : Int32) (l4 : Int32) (σ : ST), AW wlM yX5_isSpot cX5_isSpot 5 (some .boolean) rmX5_isSpot emI (k15 l1 l2 l3 l4 σ) 15 [some (.inr (some 0)), some (.inl l1), some (.inl l2), some (.inl l3), some (.inl l4)] [] σ) (l1 : Int32) (l2 : Int32) (l4 : Int32) (s0 : Int32) (σ : ST) : AW wlM yX5_isSpot cX5_isSpot 5 (some .boolean) rmX5_isSpot emI (fX5_isSpot_J51 k15 l1 l2 l4 s0 σ) 51 [some (.inr (some 0)), some (.inl l1), some (.inl l2), none, some (.inl l4)] [.inl s0] σ := by
  unfold fX5_isSpot_J51
  refine aw_stn (pc := 51) (L' := [some (.inr (some 0)), some (.inl l1), some (.inl l2), some (.inl s0), some (.inl l4)]) dX5_isSpot_51 rfl (by decide) rfl ?_
  refine aw_iincB (pc := 52) (v := 1) (Lf := fun v1 => [some (.inr (some 0)), some (.inl l1), some (.inl l2), some (.inl s0), some (.inl v1)]) dX5_isSpot_52 rfl (by decide) (by decide) (fun _ => rfl) (fun v1 => ?_)
  refine aw_goto (pc := 55) (tgt := 15) dX5_isSpot_55 (by decide) ?_
  exact aw_wk (wk_same (wk_same (wk_same (wk_same (wk_same wk_nil))))) (hk15 l1 l2 s0 v1 σ)
noncomputable def fX5_isSpot_J46 (k15 : Int32 → Int32 → Int32 → Int32 → ST → Option (Int32 × ST)) (l1 : Int32) (l2 : Int32) (l4 : Int32) (σ : ST) : Option (Int32 × ST) :=
  fX5_isSpot_J51 k15 l1 l2 l4 1 σ
set_option maxRecDepth 10000 in
theorem xX5_isSpot_J46 (k15 : Int32 → Int32 → Int32 → Int32 → ST → Option (Int32 × ST)) (hk15 : ∀ (l1 : Int32) (l2 : Int32) (l3 : Int32) (l4 : Int32) (σ : ST), AW wlM yX5_isSpot cX5_isSpot 5 (some .boolean) rmX5_isSpot emI (k15 l1 l2 l3 l4 σ) 15 [some (.inr (some 0)), some (.inl l1), some (.inl l2), some (.inl l3), some (.inl l4)] [] σ) (l1 : Int32) (l2 : Int32) (l4 : Int32) (σ : ST) : AW wlM yX5_isSpot cX5_isSpot 5 (some .boolean) rmX5_isSpot emI (fX5_isSpot_J46 k15 l1 l2 l4 σ) 46 [some (.inr (some 0)), some (.inl l1), some (.inl l2), none, some (.inl l4)] [] σ := by
  unfold fX5_isSpot_J46
  refine aw_iconst (pc := 46) (v := 1) dX5_isSpot_46 (by decide) ?_
  refine aw_goto (pc := 47) (tgt := 51) dX5_isSpot_47 (by decide) ?_
  exact aw_wk (wk_same (wk_same (wk_same (wk_none (wk_same wk_nil))))) (xX5_isSpot_J51 k15 hk15 l1 l2 l4 1 σ)
noncomputable def fX5_isSpot_B15 (k15 : Int32 → Int32 → Int32 → Int32 → ST → Option (Int32 × ST)) (l1 : Int32) (l2 : Int32) (l3 : Int32) (l4 : Int32) (σ : ST) : Option (Int32 × ST) :=
  if ib l1 20 = true then if (σ.1 20 l1.toNatClampNeg) ≤ l4 then (if (l3 = 0 ∨ l3 = 1) then some (l3, σ) else none) else (if l3 = 0 then (if ib ((10 * l1) + l4) 200 = true then if (σ.1 19 ((10 * l1) + l4).toNatClampNeg) = l2 then (fX5_isSpot_J46 k15 l1 l2 l4 σ) else (fX5_isSpot_J51 k15 l1 l2 l4 0 σ) else none) else (fX5_isSpot_J46 k15 l1 l2 l4 σ)) else none
set_option maxRecDepth 10000 in
theorem xX5_isSpot_B15 (k15 : Int32 → Int32 → Int32 → Int32 → ST → Option (Int32 × ST)) (hk15 : ∀ (l1 : Int32) (l2 : Int32) (l3 : Int32) (l4 : Int32) (σ : ST), AW wlM yX5_isSpot cX5_isSpot 5 (some .boolean) rmX5_isSpot emI (k15 l1 l2 l3 l4 σ) 15 [some (.inr (some 0)), some (.inl l1), some (.inl l2), some (.inl l3), some (.inl l4)] [] σ) (l1 : Int32) (l2 : Int32) (l3 : Int32) (l4 : Int32) (σ : ST) : AW wlM yX5_isSpot cX5_isSpot 5 (some .boolean) rmX5_isSpot emI (fX5_isSpot_B15 k15 l1 l2 l3 l4 σ) 15 [some (.inr (some 0)), some (.inl l1), some (.inl l2), some (.inl l3), some (.inl l4)] [] σ := by
  unfold fX5_isSpot_B15
  refine aw_iload (pc := 15) dX5_isSpot_15 rfl ?_
  refine aw_aload_n (pc := 17) dX5_isSpot_17 rfl rfl ?_
  refine aw_get (pc := 18) (v := .inr (some 20)) foX5_75 (atM0 _) rfl dX5_isSpot_18 ?_
  refine aw_iload_n (pc := 21) dX5_isSpot_21 rfl rfl ?_
  refine aw_iald' (pc := 22) (atM20 _) dX5_isSpot_22 ?_
  refine aw_icmp_ge (pc := 23) (tgt := 58) dX5_isSpot_23 (by decide) (fun _ => ?_) (fun _ => ?_)
  · refine aw_iload_n (pc := 58) dX5_isSpot_58 rfl rfl ?_
    exact aw_rz (pc := 59) rfl rfl dX5_isSpot_59
  refine aw_iload_n (pc := 26) dX5_isSpot_26 rfl rfl ?_
  refine aw_if_ne (pc := 27) (tgt := 46) dX5_isSpot_27 (by decide) (fun _ => ?_) (fun _ => ?_)
  · refine aw_aload_n (pc := 30) dX5_isSpot_30 rfl rfl ?_
    refine aw_get (pc := 31) (v := .inr (some 19)) foX5_72 (atM0 _) rfl dX5_isSpot_31 ?_
    refine aw_bipush (pc := 34) (v := 10) dX5_isSpot_34 (by decide) ?_
    refine aw_iload_n (pc := 36) dX5_isSpot_36 rfl rfl ?_
    refine aw_imul (pc := 37) dX5_isSpot_37 ?_
    refine aw_iload (pc := 38) dX5_isSpot_38 rfl ?_
    refine aw_iadd (pc := 40) dX5_isSpot_40 ?_
    refine aw_iald' (pc := 41) (atM19 _) dX5_isSpot_41 ?_
    refine aw_iload_n (pc := 42) dX5_isSpot_42 rfl rfl ?_
    refine aw_icmp_ne (pc := 43) (tgt := 50) dX5_isSpot_43 (by decide) (fun _ => ?_) (fun _ => ?_)
    · exact aw_wk (wk_same (wk_same (wk_same (wk_none (wk_same wk_nil))))) (xX5_isSpot_J46 k15 hk15 l1 l2 l4 σ)
    refine aw_iconst (pc := 50) (v := 0) dX5_isSpot_50 (by decide) ?_
    exact aw_wk (wk_same (wk_same (wk_same (wk_none (wk_same wk_nil))))) (xX5_isSpot_J51 k15 hk15 l1 l2 l4 0 σ)
  exact aw_wk (wk_same (wk_same (wk_same (wk_none (wk_same wk_nil))))) (xX5_isSpot_J46 k15 hk15 l1 l2 l4 σ)
noncomputable def fX5_isSpot_L15 (n : Nat) (l1 : Int32) (l2 : Int32) (l3 : Int32) (l4 : Int32) (σ : ST) : Option (Int32 × ST) := loopN (α := Int32 × Int32 × Int32 × Int32 × ST) (fun k a => fX5_isSpot_B15 (fun l1 l2 l3 l4 σ => k (l1, l2, l3, l4, σ)) a.1 a.2.1 a.2.2.1 a.2.2.2.1 a.2.2.2.2) n (l1, l2, l3, l4, σ)
theorem xX5_isSpot_L15 (n : Nat) (l1 : Int32) (l2 : Int32) (l3 : Int32) (l4 : Int32) (σ : ST) : AW wlM yX5_isSpot cX5_isSpot 5 (some .boolean) rmX5_isSpot emI (fX5_isSpot_L15 n l1 l2 l3 l4 σ) 15 [some (.inr (some 0)), some (.inl l1), some (.inl l2), some (.inl l3), some (.inl l4)] [] σ :=
  aw_loop (α := Int32 × Int32 × Int32 × Int32 × ST) (Lf := fun a => [some (.inr (some 0)), some (.inl (a.1)), some (.inl (a.2.1)), some (.inl (a.2.2.1)), some (.inl (a.2.2.2.1))]) (sf := fun a => a.2.2.2.2) (fun k hk a => by
    obtain ⟨l1, l2, l3, l4, σ⟩ := a
    exact xX5_isSpot_B15 (fun l1 l2 l3 l4 σ => k (l1, l2, l3, l4, σ)) (fun l1 l2 l3 l4 σ => hk (l1, l2, l3, l4, σ)) l1 l2 l3 l4 σ) n (l1, l2, l3, l4, σ)
noncomputable def fX5_isSpot_J11 (l1 : Int32) (l2 : Int32) (s0 : Int32) (σ : ST) : Option (Int32 × ST) :=
  fX5_isSpot_L15 FU l1 l2 s0 0 σ
set_option maxRecDepth 10000 in
theorem xX5_isSpot_J11 (l1 : Int32) (l2 : Int32) (s0 : Int32) (σ : ST) : AW wlM yX5_isSpot cX5_isSpot 5 (some .boolean) rmX5_isSpot emI (fX5_isSpot_J11 l1 l2 s0 σ) 11 [some (.inr (some 0)), some (.inl l1), some (.inl l2), none, none] [.inl s0] σ := by
  unfold fX5_isSpot_J11
  refine aw_stn (pc := 11) (L' := [some (.inr (some 0)), some (.inl l1), some (.inl l2), some (.inl s0), none]) dX5_isSpot_11 rfl (by decide) rfl ?_
  refine aw_iconst (pc := 12) (v := 0) dX5_isSpot_12 (by decide) ?_
  refine aw_st (pc := 13) (L' := [some (.inr (some 0)), some (.inl l1), some (.inl l2), some (.inl s0), some (.inl 0)]) dX5_isSpot_13 (by decide) rfl ?_
  exact aw_wk (wk_same (wk_same (wk_same (wk_same (wk_same wk_nil))))) (xX5_isSpot_L15 FU l1 l2 s0 0 σ)
noncomputable def fX5_isSpot (a1 : Int32) (a2 : Int32) (σ : ST) : Option (Int32 × ST) :=
  if a2 = (-5) then (fX5_isSpot_J11 a1 a2 1 σ) else (fX5_isSpot_J11 a1 a2 0 σ)
set_option maxRecDepth 10000 in
theorem xX5_isSpot (a1 : Int32) (a2 : Int32) (σ : ST) : MS wlM yX5_isSpot cX5_isSpot 5 (some .boolean) rmX5_isSpot emI [.inr (some 0), .inl a1, .inl a2] σ (fX5_isSpot a1 a2 σ) := by
  refine MS.of (by decide +kernel) (Nat.le_of_ble_eq_true rfl) ?_
  show AW wlM yX5_isSpot cX5_isSpot 5 (some .boolean) rmX5_isSpot emI (fX5_isSpot a1 a2 σ) 0 [some (.inr (some 0)), some (.inl a1), some (.inl a2), none, none] [] σ
  unfold fX5_isSpot
  refine aw_iload_n (pc := 0) dX5_isSpot_0 rfl rfl ?_
  refine aw_bipush (pc := 1) (v := (-5)) dX5_isSpot_1 (by decide) ?_
  refine aw_icmp_ne (pc := 3) (tgt := 10) dX5_isSpot_3 (by decide) (fun _ => ?_) (fun _ => ?_)
  · refine aw_iconst (pc := 6) (v := 1) dX5_isSpot_6 (by decide) ?_
    refine aw_goto (pc := 7) (tgt := 11) dX5_isSpot_7 (by decide) ?_
    exact aw_wk (wk_same (wk_same (wk_same (wk_none (wk_none wk_nil))))) (xX5_isSpot_J11 a1 a2 1 σ)
  refine aw_iconst (pc := 10) (v := 0) dX5_isSpot_10 (by decide) ?_
  exact aw_wk (wk_same (wk_same (wk_same (wk_none (wk_none wk_nil))))) (xX5_isSpot_J11 a1 a2 0 σ)
abbrev rmX5_check : Room := { frames := 4, cells := 0, slots := 0, locals := 93 }
noncomputable def fX5_check_J193 (k94 : Int32 → Int32 → Int32 → Int32 → Int32 → ST → Option (Int32 × ST)) (l1 : Int32) (l2 : Int32) (l4 : Int32) (l5 : Int32) (l6 : Int32) (σ : ST) : Option (Int32 × ST) :=
  bindv (l6 + 1) (fun v10 => k94 l1 l2 l4 l5 v10 σ)
set_option maxRecDepth 10000 in
theorem xX5_check_J193 (k94 : Int32 → Int32 → Int32 → Int32 → Int32 → ST → Option (Int32 × ST)) (hk94 : ∀ (l1 : Int32) (l2 : Int32) (l4 : Int32) (l5 : Int32) (l6 : Int32) (σ : ST), AW wlM yX5_check cX5_check 8 (some .int) rmX5_check emI (k94 l1 l2 l4 l5 l6 σ) 94 [some (.inr (some 0)), some (.inl l1), some (.inl l2), none, some (.inl l4), some (.inl l5), some (.inl l6), none] [] σ) (l1 : Int32) (l2 : Int32) (l4 : Int32) (l5 : Int32) (l6 : Int32) (σ : ST) : AW wlM yX5_check cX5_check 8 (some .int) rmX5_check emI (fX5_check_J193 k94 l1 l2 l4 l5 l6 σ) 193 [some (.inr (some 0)), some (.inl l1), some (.inl l2), none, some (.inl l4), some (.inl l5), some (.inl l6), none] [] σ := by
  unfold fX5_check_J193
  refine aw_iincB (pc := 193) (v := 1) (Lf := fun v10 => [some (.inr (some 0)), some (.inl l1), some (.inl l2), none, some (.inl l4), some (.inl l5), some (.inl v10), none]) dX5_check_193 rfl (by decide) (by decide) (fun _ => rfl) (fun v10 => ?_)
  refine aw_goto (pc := 196) (tgt := 94) dX5_check_196 (by decide) ?_
  exact aw_wk (wk_same (wk_same (wk_same (wk_none (wk_same (wk_same (wk_same (wk_none wk_nil)))))))) (hk94 l1 l2 l4 l5 v10 σ)
noncomputable def fX5_check_J155 (k94 : Int32 → Int32 → Int32 → Int32 → Int32 → ST → Option (Int32 × ST)) (l1 : Int32) (l2 : Int32) (l4 : Int32) (l6 : Int32) (s0 : Int32) (σ : ST) : Option (Int32 × ST) :=
  if s0 < 1000000000 then (if ib l6 20 = true then cb (fX5_offOf l1 l6 (σ.1 14 l6.toNatClampNeg) σ) (fun r13 σ14 => bindv (l4 + (s0 + r13)) (fun v15 => fX5_check_J193 k94 l1 l2 v15 l6 l6 σ14)) else none) else (some ((-4), σ))
set_option maxRecDepth 10000 in
theorem xX5_check_J155 (k94 : Int32 → Int32 → Int32 → Int32 → Int32 → ST → Option (Int32 × ST)) (hk94 : ∀ (l1 : Int32) (l2 : Int32) (l4 : Int32) (l5 : Int32) (l6 : Int32) (σ : ST), AW wlM yX5_check cX5_check 8 (some .int) rmX5_check emI (k94 l1 l2 l4 l5 l6 σ) 94 [some (.inr (some 0)), some (.inl l1), some (.inl l2), none, some (.inl l4), some (.inl l5), some (.inl l6), none] [] σ) (l1 : Int32) (l2 : Int32) (l4 : Int32) (l6 : Int32) (s0 : Int32) (σ : ST) : AW wlM yX5_check cX5_check 8 (some .int) rmX5_check emI (fX5_check_J155 k94 l1 l2 l4 l6 s0 σ) 155 [some (.inr (some 0)), some (.inl l1), some (.inl l2), none, some (.inl l4), none, some (.inl l6), none] [.inl s0] σ := by
  unfold fX5_check_J155
  refine aw_st (pc := 155) (L' := [some (.inr (some 0)), some (.inl l1), some (.inl l2), none, some (.inl l4), none, some (.inl l6), some (.inl s0)]) dX5_check_155 (by decide) rfl ?_
  refine aw_iload (pc := 157) dX5_check_157 rfl ?_
  refine aw_ldc (pc := 159) lcX5_108 dX5_check_159 ?_
  refine aw_icmp_lt (pc := 161) (tgt := 167) dX5_check_161 (by decide) (fun _ => ?_) (fun _ => ?_)
  · refine aw_iload (pc := 167) dX5_check_167 rfl ?_
    refine aw_iload (pc := 169) dX5_check_169 rfl ?_
    refine aw_aload_n (pc := 171) dX5_check_171 rfl rfl ?_
    refine aw_iload_n (pc := 172) dX5_check_172 rfl rfl ?_
    refine aw_iload (pc := 173) dX5_check_173 rfl ?_
    refine aw_aload_n (pc := 175) dX5_check_175 rfl rfl ?_
    refine aw_get (pc := 176) (v := .inr (some 14)) foX5_57 (atM0 _) rfl dX5_check_176 ?_
    refine aw_iload (pc := 179) dX5_check_179 rfl ?_
    refine aw_iald' (pc := 181) (atM14 _) dX5_check_181 ?_
    refine aw_cVI (pc := 182) (st := [.inl s0, .inl l4]) (xX5_offOf l1 l6 (σ.1 14 l6.toNatClampNeg) σ) (atM0 _) rfl ckX5_150 ⟨rfl, rfl, by decide, by decide⟩ (Nat.le_of_ble_eq_true rfl) dX5_check_182 rfl (fun r13 σ14 => ?_)
    refine aw_iadd (pc := 185) dX5_check_185 ?_
    refine aw_iadd (pc := 186) dX5_check_186 ?_
    refine aw_stB (pc := 187) (Lf := fun v15 => [some (.inr (some 0)), some (.inl l1), some (.inl l2), none, some (.inl v15), none, some (.inl l6), some (.inl s0)]) dX5_check_187 (by decide) (fun _ => rfl) (fun v15 => ?_)
    refine aw_iload (pc := 189) dX5_check_189 rfl ?_
    refine aw_st (pc := 191) (L' := [some (.inr (some 0)), some (.inl l1), some (.inl l2), none, some (.inl v15), some (.inl l6), some (.inl l6), some (.inl s0)]) dX5_check_191 (by decide) rfl ?_
    exact aw_wk (wk_same (wk_same (wk_same (wk_none (wk_same (wk_same (wk_same (wk_none wk_nil)))))))) (xX5_check_J193 k94 hk94 l1 l2 v15 l6 l6 σ14)
  refine aw_bipush (pc := 164) (v := (-4)) dX5_check_164 (by decide) ?_
  exact aw_ret_i (pc := 166) rfl rfl rfl dX5_check_166
noncomputable def fX5_check_B94 (k94 : Int32 → Int32 → Int32 → Int32 → Int32 → ST → Option (Int32 × ST)) (l1 : Int32) (l2 : Int32) (l4 : Int32) (l5 : Int32) (l6 : Int32) (σ : ST) : Option (Int32 × ST) :=
  if l2 ≤ l6 then (some (l4, σ)) else (if ib l6 20 = true then if (σ.1 14 l6.toNatClampNeg) = (-5) then (bindv (l4 + (σ.1 0 17)) (fun v9 => fX5_check_J193 k94 l1 l2 v9 l5 l6 σ)) else (if 0 ≤ l5 then (if ib l5 20 = true then if ib l6 20 = true then cb (fX5_step l5 (σ.1 14 l5.toNatClampNeg) l6 (σ.1 14 l6.toNatClampNeg) σ) (fun r11 σ12 => fX5_check_J155 k94 l1 l2 l4 l6 r11 σ12) else none else none) else (fX5_check_J155 k94 l1 l2 l4 l6 0 σ)) else none)
set_option maxRecDepth 10000 in
theorem xX5_check_B94 (k94 : Int32 → Int32 → Int32 → Int32 → Int32 → ST → Option (Int32 × ST)) (hk94 : ∀ (l1 : Int32) (l2 : Int32) (l4 : Int32) (l5 : Int32) (l6 : Int32) (σ : ST), AW wlM yX5_check cX5_check 8 (some .int) rmX5_check emI (k94 l1 l2 l4 l5 l6 σ) 94 [some (.inr (some 0)), some (.inl l1), some (.inl l2), none, some (.inl l4), some (.inl l5), some (.inl l6), none] [] σ) (l1 : Int32) (l2 : Int32) (l4 : Int32) (l5 : Int32) (l6 : Int32) (σ : ST) : AW wlM yX5_check cX5_check 8 (some .int) rmX5_check emI (fX5_check_B94 k94 l1 l2 l4 l5 l6 σ) 94 [some (.inr (some 0)), some (.inl l1), some (.inl l2), none, some (.inl l4), some (.inl l5), some (.inl l6), none] [] σ := by
  unfold fX5_check_B94
  refine aw_iload (pc := 94) dX5_check_94 rfl ?_
  refine aw_iload_n (pc := 96) dX5_check_96 rfl rfl ?_
  refine aw_icmp_ge (pc := 97) (tgt := 199) dX5_check_97 (by decide) (fun _ => ?_) (fun _ => ?_)
  · refine aw_iload (pc := 199) dX5_check_199 rfl ?_
    exact aw_ret_i (pc := 201) rfl rfl rfl dX5_check_201
  refine aw_aload_n (pc := 100) dX5_check_100 rfl rfl ?_
  refine aw_get (pc := 101) (v := .inr (some 14)) foX5_57 (atM0 _) rfl dX5_check_101 ?_
  refine aw_iload (pc := 104) dX5_check_104 rfl ?_
  refine aw_iald' (pc := 106) (atM14 _) dX5_check_106 ?_
  refine aw_bipush (pc := 107) (v := (-5)) dX5_check_107 (by decide) ?_
  refine aw_icmp_ne (pc := 109) (tgt := 124) dX5_check_109 (by decide) (fun _ => ?_) (fun _ => ?_)
  · refine aw_iload (pc := 112) dX5_check_112 rfl ?_
    refine aw_aload_n (pc := 114) dX5_check_114 rfl rfl ?_
    refine aw_get (pc := 115) (v := .inl (σ.1 0 17)) foX5_54 (atM0 _) rfl dX5_check_115 ?_
    refine aw_iadd (pc := 118) dX5_check_118 ?_
    refine aw_stB (pc := 119) (Lf := fun v9 => [some (.inr (some 0)), some (.inl l1), some (.inl l2), none, some (.inl v9), some (.inl l5), some (.inl l6), none]) dX5_check_119 (by decide) (fun _ => rfl) (fun v9 => ?_)
    refine aw_goto (pc := 121) (tgt := 193) dX5_check_121 (by decide) ?_
    exact aw_wk (wk_same (wk_same (wk_same (wk_none (wk_same (wk_same (wk_same (wk_none wk_nil)))))))) (xX5_check_J193 k94 hk94 l1 l2 v9 l5 l6 σ)
  refine aw_iload (pc := 124) dX5_check_124 rfl ?_
  refine aw_if_ge (pc := 126) (tgt := 133) dX5_check_126 (by decide) (fun _ => ?_) (fun _ => ?_)
  · refine aw_aload_n (pc := 133) dX5_check_133 rfl rfl ?_
    refine aw_iload (pc := 134) dX5_check_134 rfl ?_
    refine aw_aload_n (pc := 136) dX5_check_136 rfl rfl ?_
    refine aw_get (pc := 137) (v := .inr (some 14)) foX5_57 (atM0 _) rfl dX5_check_137 ?_
    refine aw_iload (pc := 140) dX5_check_140 rfl ?_
    refine aw_iald' (pc := 142) (atM14 _) dX5_check_142 ?_
    refine aw_iload (pc := 143) dX5_check_143 rfl ?_
    refine aw_aload_n (pc := 145) dX5_check_145 rfl rfl ?_
    refine aw_get (pc := 146) (v := .inr (some 14)) foX5_57 (atM0 _) rfl dX5_check_146 ?_
    refine aw_iload (pc := 149) dX5_check_149 rfl ?_
    refine aw_iald' (pc := 151) (atM14 _) dX5_check_151 ?_
    refine aw_cVI (pc := 152) (st := []) (xX5_step l5 (σ.1 14 l5.toNatClampNeg) l6 (σ.1 14 l6.toNatClampNeg) σ) (atM0 _) rfl ckX5_161 ⟨rfl, rfl, by decide, by decide⟩ (Nat.le_of_ble_eq_true rfl) dX5_check_152 rfl (fun r11 σ12 => ?_)
    exact aw_wk (wk_same (wk_same (wk_same (wk_none (wk_same (wk_none (wk_same (wk_none wk_nil)))))))) (xX5_check_J155 k94 hk94 l1 l2 l4 l6 r11 σ12)
  refine aw_iconst (pc := 129) (v := 0) dX5_check_129 (by decide) ?_
  refine aw_goto (pc := 130) (tgt := 155) dX5_check_130 (by decide) ?_
  exact aw_wk (wk_same (wk_same (wk_same (wk_none (wk_same (wk_none (wk_same (wk_none wk_nil)))))))) (xX5_check_J155 k94 hk94 l1 l2 l4 l6 0 σ)
noncomputable def fX5_check_L94 (n : Nat) (l1 : Int32) (l2 : Int32) (l4 : Int32) (l5 : Int32) (l6 : Int32) (σ : ST) : Option (Int32 × ST) := loopN (α := Int32 × Int32 × Int32 × Int32 × Int32 × ST) (fun k a => fX5_check_B94 (fun l1 l2 l4 l5 l6 σ => k (l1, l2, l4, l5, l6, σ)) a.1 a.2.1 a.2.2.1 a.2.2.2.1 a.2.2.2.2.1 a.2.2.2.2.2) n (l1, l2, l4, l5, l6, σ)
theorem xX5_check_L94 (n : Nat) (l1 : Int32) (l2 : Int32) (l4 : Int32) (l5 : Int32) (l6 : Int32) (σ : ST) : AW wlM yX5_check cX5_check 8 (some .int) rmX5_check emI (fX5_check_L94 n l1 l2 l4 l5 l6 σ) 94 [some (.inr (some 0)), some (.inl l1), some (.inl l2), none, some (.inl l4), some (.inl l5), some (.inl l6), none] [] σ :=
  aw_loop (α := Int32 × Int32 × Int32 × Int32 × Int32 × ST) (Lf := fun a => [some (.inr (some 0)), some (.inl (a.1)), some (.inl (a.2.1)), none, some (.inl (a.2.2.1)), some (.inl (a.2.2.2.1)), some (.inl (a.2.2.2.2.1)), none]) (sf := fun a => a.2.2.2.2.2) (fun k hk a => by
    obtain ⟨l1, l2, l4, l5, l6, σ⟩ := a
    exact xX5_check_B94 (fun l1 l2 l4 l5 l6 σ => k (l1, l2, l4, l5, l6, σ)) (fun l1 l2 l4 l5 l6 σ => hk (l1, l2, l4, l5, l6, σ)) l1 l2 l4 l5 l6 σ) n (l1, l2, l4, l5, l6, σ)
noncomputable def fX5_check_J78 (l1 : Int32) (l2 : Int32) (l3 : Int32) (σ : ST) : Option (Int32 × ST) :=
  if l3 = 0 then (some ((-3), σ)) else (fX5_check_L94 FU l1 l2 0 (-1) 0 σ)
set_option maxRecDepth 10000 in
theorem xX5_check_J78 (l1 : Int32) (l2 : Int32) (l3 : Int32) (σ : ST) : AW wlM yX5_check cX5_check 8 (some .int) rmX5_check emI (fX5_check_J78 l1 l2 l3 σ) 78 [some (.inr (some 0)), some (.inl l1), some (.inl l2), some (.inl l3), none, none, none, none] [] σ := by
  unfold fX5_check_J78
  refine aw_iload_n (pc := 78) dX5_check_78 rfl rfl ?_
  refine aw_if_ne (pc := 79) (tgt := 85) dX5_check_79 (by decide) (fun _ => ?_) (fun _ => ?_)
  · refine aw_bipush (pc := 82) (v := (-3)) dX5_check_82 (by decide) ?_
    exact aw_ret_i (pc := 84) rfl rfl rfl dX5_check_84
  refine aw_iconst (pc := 85) (v := 0) dX5_check_85 (by decide) ?_
  refine aw_st (pc := 86) (L' := [some (.inr (some 0)), some (.inl l1), some (.inl l2), some (.inl l3), some (.inl 0), none, none, none]) dX5_check_86 (by decide) rfl ?_
  refine aw_iconst (pc := 88) (v := (-1)) dX5_check_88 (by decide) ?_
  refine aw_st (pc := 89) (L' := [some (.inr (some 0)), some (.inl l1), some (.inl l2), some (.inl l3), some (.inl 0), some (.inl (-1)), none, none]) dX5_check_89 (by decide) rfl ?_
  refine aw_iconst (pc := 91) (v := 0) dX5_check_91 (by decide) ?_
  refine aw_st (pc := 92) (L' := [some (.inr (some 0)), some (.inl l1), some (.inl l2), some (.inl l3), some (.inl 0), some (.inl (-1)), some (.inl 0), none]) dX5_check_92 (by decide) rfl ?_
  exact aw_wk (wk_same (wk_same (wk_same (wk_none (wk_same (wk_same (wk_same (wk_none wk_nil)))))))) (xX5_check_L94 FU l1 l2 0 (-1) 0 σ)
noncomputable def fX5_check_B48 (k48 : Int32 → Int32 → Int32 → Int32 → ST → Option (Int32 × ST)) (l1 : Int32) (l2 : Int32) (l3 : Int32) (l4 : Int32) (σ : ST) : Option (Int32 × ST) :=
  if l2 ≤ l4 then (fX5_check_J78 l1 l2 l3 σ) else (if l3 = 0 then (fX5_check_J78 l1 l2 l3 σ) else (if ib l4 20 = true then cb (fX5_isSpot l4 (σ.1 14 l4.toNatClampNeg) σ) (fun r16 σ17 => bindv (l4 + 1) (fun v18 => k48 l1 l2 r16 v18 σ17)) else none))
set_option maxRecDepth 10000 in
theorem xX5_check_B48 (k48 : Int32 → Int32 → Int32 → Int32 → ST → Option (Int32 × ST)) (hk48 : ∀ (l1 : Int32) (l2 : Int32) (l3 : Int32) (l4 : Int32) (σ : ST), AW wlM yX5_check cX5_check 8 (some .int) rmX5_check emI (k48 l1 l2 l3 l4 σ) 48 [some (.inr (some 0)), some (.inl l1), some (.inl l2), some (.inl l3), some (.inl l4), none, none, none] [] σ) (l1 : Int32) (l2 : Int32) (l3 : Int32) (l4 : Int32) (σ : ST) : AW wlM yX5_check cX5_check 8 (some .int) rmX5_check emI (fX5_check_B48 k48 l1 l2 l3 l4 σ) 48 [some (.inr (some 0)), some (.inl l1), some (.inl l2), some (.inl l3), some (.inl l4), none, none, none] [] σ := by
  unfold fX5_check_B48
  refine aw_iload (pc := 48) dX5_check_48 rfl ?_
  refine aw_iload_n (pc := 50) dX5_check_50 rfl rfl ?_
  refine aw_icmp_ge (pc := 51) (tgt := 78) dX5_check_51 (by decide) (fun _ => ?_) (fun _ => ?_)
  · exact aw_wk (wk_same (wk_same (wk_same (wk_same (wk_none (wk_none (wk_none (wk_none wk_nil)))))))) (xX5_check_J78 l1 l2 l3 σ)
  refine aw_iload_n (pc := 54) dX5_check_54 rfl rfl ?_
  refine aw_if_eq (pc := 55) (tgt := 78) dX5_check_55 (by decide) (fun _ => ?_) (fun _ => ?_)
  · exact aw_wk (wk_same (wk_same (wk_same (wk_same (wk_none (wk_none (wk_none (wk_none wk_nil)))))))) (xX5_check_J78 l1 l2 l3 σ)
  refine aw_aload_n (pc := 58) dX5_check_58 rfl rfl ?_
  refine aw_iload (pc := 59) dX5_check_59 rfl ?_
  refine aw_aload_n (pc := 61) dX5_check_61 rfl rfl ?_
  refine aw_get (pc := 62) (v := .inr (some 14)) foX5_57 (atM0 _) rfl dX5_check_62 ?_
  refine aw_iload (pc := 65) dX5_check_65 rfl ?_
  refine aw_iald' (pc := 67) (atM14 _) dX5_check_67 ?_
  refine aw_cVI (pc := 68) (st := []) (xX5_isSpot l4 (σ.1 14 l4.toNatClampNeg) σ) (atM0 _) rfl ckX5_181 ⟨rfl, rfl, by decide, by decide⟩ (Nat.le_of_ble_eq_true rfl) dX5_check_68 rfl (fun r16 σ17 => ?_)
  refine aw_stn (pc := 71) (L' := [some (.inr (some 0)), some (.inl l1), some (.inl l2), some (.inl r16), some (.inl l4), none, none, none]) dX5_check_71 rfl (by decide) rfl ?_
  refine aw_iincB (pc := 72) (v := 1) (Lf := fun v18 => [some (.inr (some 0)), some (.inl l1), some (.inl l2), some (.inl r16), some (.inl v18), none, none, none]) dX5_check_72 rfl (by decide) (by decide) (fun _ => rfl) (fun v18 => ?_)
  refine aw_goto (pc := 75) (tgt := 48) dX5_check_75 (by decide) ?_
  exact aw_wk (wk_same (wk_same (wk_same (wk_same (wk_same (wk_none (wk_none (wk_none wk_nil)))))))) (hk48 l1 l2 r16 v18 σ17)
noncomputable def fX5_check_L48 (n : Nat) (l1 : Int32) (l2 : Int32) (l3 : Int32) (l4 : Int32) (σ : ST) : Option (Int32 × ST) := loopN (α := Int32 × Int32 × Int32 × Int32 × ST) (fun k a => fX5_check_B48 (fun l1 l2 l3 l4 σ => k (l1, l2, l3, l4, σ)) a.1 a.2.1 a.2.2.1 a.2.2.2.1 a.2.2.2.2) n (l1, l2, l3, l4, σ)
theorem xX5_check_L48 (n : Nat) (l1 : Int32) (l2 : Int32) (l3 : Int32) (l4 : Int32) (σ : ST) : AW wlM yX5_check cX5_check 8 (some .int) rmX5_check emI (fX5_check_L48 n l1 l2 l3 l4 σ) 48 [some (.inr (some 0)), some (.inl l1), some (.inl l2), some (.inl l3), some (.inl l4), none, none, none] [] σ :=
  aw_loop (α := Int32 × Int32 × Int32 × Int32 × ST) (Lf := fun a => [some (.inr (some 0)), some (.inl (a.1)), some (.inl (a.2.1)), some (.inl (a.2.2.1)), some (.inl (a.2.2.2.1)), none, none, none]) (sf := fun a => a.2.2.2.2) (fun k hk a => by
    obtain ⟨l1, l2, l3, l4, σ⟩ := a
    exact xX5_check_B48 (fun l1 l2 l3 l4 σ => k (l1, l2, l3, l4, σ)) (fun l1 l2 l3 l4 σ => hk (l1, l2, l3, l4, σ)) l1 l2 l3 l4 σ) n (l1, l2, l3, l4, σ)
noncomputable def fX5_check_J44 (l1 : Int32) (l2 : Int32) (s0 : Int32) (σ : ST) : Option (Int32 × ST) :=
  fX5_check_L48 FU l1 l2 s0 0 σ
set_option maxRecDepth 10000 in
theorem xX5_check_J44 (l1 : Int32) (l2 : Int32) (s0 : Int32) (σ : ST) : AW wlM yX5_check cX5_check 8 (some .int) rmX5_check emI (fX5_check_J44 l1 l2 s0 σ) 44 [some (.inr (some 0)), some (.inl l1), some (.inl l2), none, none, none, none, none] [.inl s0] σ := by
  unfold fX5_check_J44
  refine aw_stn (pc := 44) (L' := [some (.inr (some 0)), some (.inl l1), some (.inl l2), some (.inl s0), none, none, none, none]) dX5_check_44 rfl (by decide) rfl ?_
  refine aw_iconst (pc := 45) (v := 0) dX5_check_45 (by decide) ?_
  refine aw_st (pc := 46) (L' := [some (.inr (some 0)), some (.inl l1), some (.inl l2), some (.inl s0), some (.inl 0), none, none, none]) dX5_check_46 (by decide) rfl ?_
  exact aw_wk (wk_same (wk_same (wk_same (wk_same (wk_same (wk_none (wk_none (wk_none wk_nil)))))))) (xX5_check_L48 FU l1 l2 s0 0 σ)
noncomputable def fX5_check (a1 : Int32) (σ : ST) : Option (Int32 × ST) :=
  cb (fX5_isDrive a1 σ) (fun r1 σ2 => if r1 = 0 then (some ((-1), σ2)) else (bindv (σ2.1 0 19) (fun v3 => bindv (stI σ2 0 19 0) (fun σ4 => cb (fX5_findWays σ4) (fun r5 σ6 => cb (fX5_findSpots a1 σ6) (fun r7 σ8 => if ib a1 6 = true then if v3 = (σ8.1 13 a1.toNatClampNeg) then (fX5_check_J44 a1 v3 1 σ8) else (fX5_check_J44 a1 v3 0 σ8) else none))))))
set_option maxRecDepth 10000 in
theorem xX5_check (a1 : Int32) (σ : ST) : MS wlM yX5_check cX5_check 8 (some .int) rmX5_check emI [.inr (some 0), .inl a1] σ (fX5_check a1 σ) := by
  refine MS.of (by decide +kernel) (Nat.le_of_ble_eq_true rfl) ?_
  show AW wlM yX5_check cX5_check 8 (some .int) rmX5_check emI (fX5_check a1 σ) 0 [some (.inr (some 0)), some (.inl a1), none, none, none, none, none, none] [] σ
  unfold fX5_check
  refine aw_aload_n (pc := 0) dX5_check_0 rfl rfl ?_
  refine aw_iload_n (pc := 1) dX5_check_1 rfl rfl ?_
  refine aw_cVI (pc := 2) (st := []) (xX5_isDrive a1 σ) (atM0 _) rfl ckX5_144 ⟨rfl, rfl, by decide, by decide⟩ (Nat.le_of_ble_eq_true rfl) dX5_check_2 rfl (fun r1 σ2 => ?_)
  refine aw_if_ne (pc := 5) (tgt := 10) dX5_check_5 (by decide) (fun _ => ?_) (fun _ => ?_)
  · refine aw_iconst (pc := 8) (v := (-1)) dX5_check_8 (by decide) ?_
    exact aw_ret_i (pc := 9) rfl rfl rfl dX5_check_9
  refine aw_aload_n (pc := 10) dX5_check_10 rfl rfl ?_
  refine aw_get (pc := 11) (v := .inl (σ2.1 0 19)) foX5_178 (atM0 _) rfl dX5_check_11 ?_
  refine aw_stnB (pc := 14) (Lf := fun v3 => [some (.inr (some 0)), some (.inl a1), some (.inl v3), none, none, none, none, none]) dX5_check_14 rfl (by decide) (fun _ => rfl) (fun v3 => ?_)
  refine aw_aload_n (pc := 15) dX5_check_15 rfl rfl ?_
  refine aw_iconst (pc := 16) (v := 0) dX5_check_16 (by decide) ?_
  refine aw_putI (pc := 17) fwX5_178 (atM0 _) (Nat.le_of_ble_eq_true rfl) (stM0_19 _ _) dX5_check_17 (fun σ4 => ?_)
  refine aw_aload_n (pc := 20) dX5_check_20 rfl rfl ?_
  refine aw_cVV (pc := 21) (st := []) (xX5_findWays σ4) (atM0 _) rfl ckX5_138 ⟨rfl, rfl, by decide, by decide⟩ (Nat.le_of_ble_eq_true rfl) dX5_check_21 rfl (fun r5 σ6 => ?_)
  refine aw_aload_n (pc := 24) dX5_check_24 rfl rfl ?_
  refine aw_iload_n (pc := 25) dX5_check_25 rfl rfl ?_
  refine aw_cVV (pc := 26) (st := []) (xX5_findSpots a1 σ6) (atM0 _) rfl ckX5_158 ⟨rfl, rfl, by decide, by decide⟩ (Nat.le_of_ble_eq_true rfl) dX5_check_26 rfl (fun r7 σ8 => ?_)
  refine aw_iload_n (pc := 29) dX5_check_29 rfl rfl ?_
  refine aw_aload_n (pc := 30) dX5_check_30 rfl rfl ?_
  refine aw_get (pc := 31) (v := .inr (some 13)) foX5_47 (atM0 _) rfl dX5_check_31 ?_
  refine aw_iload_n (pc := 34) dX5_check_34 rfl rfl ?_
  refine aw_iald' (pc := 35) (atM13 _) dX5_check_35 ?_
  refine aw_icmp_ne (pc := 36) (tgt := 43) dX5_check_36 (by decide) (fun _ => ?_) (fun _ => ?_)
  · refine aw_iconst (pc := 39) (v := 1) dX5_check_39 (by decide) ?_
    refine aw_goto (pc := 40) (tgt := 44) dX5_check_40 (by decide) ?_
    exact aw_wk (wk_same (wk_same (wk_same (wk_none (wk_none (wk_none (wk_none (wk_none wk_nil)))))))) (xX5_check_J44 a1 v3 1 σ8)
  refine aw_iconst (pc := 43) (v := 0) dX5_check_43 (by decide) ?_
  exact aw_wk (wk_same (wk_same (wk_same (wk_none (wk_none (wk_none (wk_none (wk_none wk_nil)))))))) (xX5_check_J44 a1 v3 0 σ8)
abbrev rmX5_list : Room := { frames := 1, cells := 0, slots := 0, locals := 21 }
noncomputable def fX5_list_J16 (l1 : Int32) (σ : ST) : Option (Int32 × ST) :=
  if (σ.1 0 19) = 20 then (some ((-2), σ)) else (if ib (σ.1 0 19) 20 = true then bindv (stI σ 14 (σ.1 0 19).toNatClampNeg l1) (fun σ1 => bindv (stI σ1 0 19 ((σ1.1 0 19) + 1)) (fun σ2 => some ((σ2.1 0 19), σ2))) else none)
set_option maxRecDepth 10000 in
theorem xX5_list_J16 (l1 : Int32) (σ : ST) : AW wlM yX5_list cX5_list 2 (some .int) rmX5_list emI (fX5_list_J16 l1 σ) 16 [some (.inr (some 0)), some (.inl l1)] [] σ := by
  unfold fX5_list_J16
  refine aw_aload_n (pc := 16) dX5_list_16 rfl rfl ?_
  refine aw_get (pc := 17) (v := .inl (σ.1 0 19)) foX5_178 (atM0 _) rfl dX5_list_17 ?_
  refine aw_bipush (pc := 20) (v := 20) dX5_list_20 (by decide) ?_
  refine aw_icmp_ne (pc := 22) (tgt := 28) dX5_list_22 (by decide) (fun _ => ?_) (fun _ => ?_)
  · refine aw_bipush (pc := 25) (v := (-2)) dX5_list_25 (by decide) ?_
    exact aw_ret_i (pc := 27) rfl rfl rfl dX5_list_27
  refine aw_aload_n (pc := 28) dX5_list_28 rfl rfl ?_
  refine aw_get (pc := 29) (v := .inr (some 14)) foX5_57 (atM0 _) rfl dX5_list_29 ?_
  refine aw_aload_n (pc := 32) dX5_list_32 rfl rfl ?_
  refine aw_get (pc := 33) (v := .inl (σ.1 0 19)) foX5_178 (atM0 _) rfl dX5_list_33 ?_
  refine aw_iload_n (pc := 36) dX5_list_36 rfl rfl ?_
  refine aw_iastB (pc := 37) (atM14 _) (stM14 _ _ _) dX5_list_37 (fun σ1 => ?_)
  refine aw_aload_n (pc := 38) dX5_list_38 rfl rfl ?_
  refine aw_dup (pc := 39) dX5_list_39 ?_
  refine aw_get (pc := 40) (v := .inl (σ1.1 0 19)) foX5_178 (atM0 _) rfl dX5_list_40 ?_
  refine aw_iconst (pc := 43) (v := 1) dX5_list_43 (by decide) ?_
  refine aw_iadd (pc := 44) dX5_list_44 ?_
  refine aw_putI (pc := 45) fwX5_178 (atM0 _) (Nat.le_of_ble_eq_true rfl) (stM0_19 _ _) dX5_list_45 (fun σ2 => ?_)
  refine aw_aload_n (pc := 48) dX5_list_48 rfl rfl ?_
  refine aw_get (pc := 49) (v := .inl (σ2.1 0 19)) foX5_178 (atM0 _) rfl dX5_list_49 ?_
  exact aw_ret_i (pc := 52) rfl rfl rfl dX5_list_52
noncomputable def fX5_list (a1 : Int32) (σ : ST) : Option (Int32 × ST) :=
  if a1 = (-5) then (fX5_list_J16 a1 σ) else (cb (fX5_isPoint a1 σ) (fun r3 σ4 => if r3 = 0 then (some ((-1), σ4)) else (fX5_list_J16 a1 σ4)))
set_option maxRecDepth 10000 in
theorem xX5_list (a1 : Int32) (σ : ST) : MS wlM yX5_list cX5_list 2 (some .int) rmX5_list emI [.inr (some 0), .inl a1] σ (fX5_list a1 σ) := by
  refine MS.of (by decide +kernel) (Nat.le_of_ble_eq_true rfl) ?_
  show AW wlM yX5_list cX5_list 2 (some .int) rmX5_list emI (fX5_list a1 σ) 0 [some (.inr (some 0)), some (.inl a1)] [] σ
  unfold fX5_list
  refine aw_iload_n (pc := 0) dX5_list_0 rfl rfl ?_
  refine aw_bipush (pc := 1) (v := (-5)) dX5_list_1 (by decide) ?_
  refine aw_icmp_eq (pc := 3) (tgt := 16) dX5_list_3 (by decide) (fun _ => ?_) (fun _ => ?_)
  · exact aw_wk (wk_same (wk_same wk_nil)) (xX5_list_J16 a1 σ)
  refine aw_aload_n (pc := 6) dX5_list_6 rfl rfl ?_
  refine aw_iload_n (pc := 7) dX5_list_7 rfl rfl ?_
  refine aw_cVI (pc := 8) (st := []) (xX5_isPoint a1 σ) (atM0 _) rfl ckX5_135 ⟨rfl, rfl, by decide, by decide⟩ (Nat.le_of_ble_eq_true rfl) dX5_list_8 rfl (fun r3 σ4 => ?_)
  refine aw_if_ne (pc := 11) (tgt := 16) dX5_list_11 (by decide) (fun _ => ?_) (fun _ => ?_)
  · refine aw_iconst (pc := 14) (v := (-1)) dX5_list_14 (by decide) ?_
    exact aw_ret_i (pc := 15) rfl rfl rfl dX5_list_15
  exact aw_wk (wk_same (wk_same wk_nil)) (xX5_list_J16 a1 σ4)
abbrev rmX5_alike : Room := { frames := 0, cells := 0, slots := 0, locals := 0 }
noncomputable def fX5_alike_J44 (l3 : Int32) (σ : ST) : Option (Int32 × ST) :=
  some (l3, σ)
set_option maxRecDepth 10000 in
theorem xX5_alike_J44 (l3 : Int32) (σ : ST) : AW wlM yX5_alike cX5_alike 4 (some .int) rmX5_alike emI (fX5_alike_J44 l3 σ) 44 [none, none, none, some (.inl l3)] [] σ := by
  unfold fX5_alike_J44
  refine aw_iload_n (pc := 44) dX5_alike_44 rfl rfl ?_
  exact aw_ret_i (pc := 45) rfl rfl rfl dX5_alike_45
noncomputable def fX5_alike_J26 (k2 : Int32 → Int32 → Int32 → ST → Option (Int32 × ST)) (l1 : Int32) (l2 : Int32) (l3 : Int32) (σ : ST) : Option (Int32 × ST) :=
  if ib l3 20 = true then if ib l3 20 = true then bindv (stI σ 23 l3.toNatClampNeg (σ.1 22 l3.toNatClampNeg)) (fun σ1 => bindv (l3 + 1) (fun v2 => k2 l1 l2 v2 σ1)) else none else none
set_option maxRecDepth 10000 in
theorem xX5_alike_J26 (k2 : Int32 → Int32 → Int32 → ST → Option (Int32 × ST)) (hk2 : ∀ (l1 : Int32) (l2 : Int32) (l3 : Int32) (σ : ST), AW wlM yX5_alike cX5_alike 4 (some .int) rmX5_alike emI (k2 l1 l2 l3 σ) 2 [some (.inr (some 0)), some (.inl l1), some (.inl l2), some (.inl l3)] [] σ) (l1 : Int32) (l2 : Int32) (l3 : Int32) (σ : ST) : AW wlM yX5_alike cX5_alike 4 (some .int) rmX5_alike emI (fX5_alike_J26 k2 l1 l2 l3 σ) 26 [some (.inr (some 0)), some (.inl l1), some (.inl l2), some (.inl l3)] [] σ := by
  unfold fX5_alike_J26
  refine aw_aload_n (pc := 26) dX5_alike_26 rfl rfl ?_
  refine aw_get (pc := 27) (v := .inr (some 23)) foX5_84 (atM0 _) rfl dX5_alike_27 ?_
  refine aw_iload_n (pc := 30) dX5_alike_30 rfl rfl ?_
  refine aw_aload_n (pc := 31) dX5_alike_31 rfl rfl ?_
  refine aw_get (pc := 32) (v := .inr (some 22)) foX5_81 (atM0 _) rfl dX5_alike_32 ?_
  refine aw_iload_n (pc := 35) dX5_alike_35 rfl rfl ?_
  refine aw_iald' (pc := 36) (atM22 _) dX5_alike_36 ?_
  refine aw_iastB (pc := 37) (atM23 _) (stM23 _ _ _) dX5_alike_37 (fun σ1 => ?_)
  refine aw_iincB (pc := 38) (v := 1) (Lf := fun v2 => [some (.inr (some 0)), some (.inl l1), some (.inl l2), some (.inl v2)]) dX5_alike_38 rfl (by decide) (by decide) (fun _ => rfl) (fun v2 => ?_)
  refine aw_goto (pc := 41) (tgt := 2) dX5_alike_41 (by decide) ?_
  exact aw_wk (wk_same (wk_same (wk_same (wk_same wk_nil)))) (hk2 l1 l2 v2 σ1)
noncomputable def fX5_alike_B2 (k2 : Int32 → Int32 → Int32 → ST → Option (Int32 × ST)) (l1 : Int32) (l2 : Int32) (l3 : Int32) (σ : ST) : Option (Int32 × ST) :=
  if l1 ≤ l3 then (fX5_alike_J44 l3 σ) else (if l2 = 0 then (if ib l3 20 = true then if ib l3 20 = true then if (σ.1 22 l3.toNatClampNeg) = (σ.1 23 l3.toNatClampNeg) then (fX5_alike_J26 k2 l1 l2 l3 σ) else (fX5_alike_J44 l3 σ) else none else none) else (fX5_alike_J26 k2 l1 l2 l3 σ))
set_option maxRecDepth 10000 in
theorem xX5_alike_B2 (k2 : Int32 → Int32 → Int32 → ST → Option (Int32 × ST)) (hk2 : ∀ (l1 : Int32) (l2 : Int32) (l3 : Int32) (σ : ST), AW wlM yX5_alike cX5_alike 4 (some .int) rmX5_alike emI (k2 l1 l2 l3 σ) 2 [some (.inr (some 0)), some (.inl l1), some (.inl l2), some (.inl l3)] [] σ) (l1 : Int32) (l2 : Int32) (l3 : Int32) (σ : ST) : AW wlM yX5_alike cX5_alike 4 (some .int) rmX5_alike emI (fX5_alike_B2 k2 l1 l2 l3 σ) 2 [some (.inr (some 0)), some (.inl l1), some (.inl l2), some (.inl l3)] [] σ := by
  unfold fX5_alike_B2
  refine aw_iload_n (pc := 2) dX5_alike_2 rfl rfl ?_
  refine aw_iload_n (pc := 3) dX5_alike_3 rfl rfl ?_
  refine aw_icmp_ge (pc := 4) (tgt := 44) dX5_alike_4 (by decide) (fun _ => ?_) (fun _ => ?_)
  · exact aw_wk (wk_none (wk_none (wk_none (wk_same wk_nil)))) (xX5_alike_J44 l3 σ)
  refine aw_iload_n (pc := 7) dX5_alike_7 rfl rfl ?_
  refine aw_if_ne (pc := 8) (tgt := 26) dX5_alike_8 (by decide) (fun _ => ?_) (fun _ => ?_)
  · refine aw_aload_n (pc := 11) dX5_alike_11 rfl rfl ?_
    refine aw_get (pc := 12) (v := .inr (some 22)) foX5_81 (atM0 _) rfl dX5_alike_12 ?_
    refine aw_iload_n (pc := 15) dX5_alike_15 rfl rfl ?_
    refine aw_iald' (pc := 16) (atM22 _) dX5_alike_16 ?_
    refine aw_aload_n (pc := 17) dX5_alike_17 rfl rfl ?_
    refine aw_get (pc := 18) (v := .inr (some 23)) foX5_84 (atM0 _) rfl dX5_alike_18 ?_
    refine aw_iload_n (pc := 21) dX5_alike_21 rfl rfl ?_
    refine aw_iald' (pc := 22) (atM23 _) dX5_alike_22 ?_
    refine aw_icmp_ne (pc := 23) (tgt := 44) dX5_alike_23 (by decide) (fun _ => ?_) (fun _ => ?_)
    · exact aw_wk (wk_same (wk_same (wk_same (wk_same wk_nil)))) (xX5_alike_J26 k2 hk2 l1 l2 l3 σ)
    exact aw_wk (wk_none (wk_none (wk_none (wk_same wk_nil)))) (xX5_alike_J44 l3 σ)
  exact aw_wk (wk_same (wk_same (wk_same (wk_same wk_nil)))) (xX5_alike_J26 k2 hk2 l1 l2 l3 σ)
noncomputable def fX5_alike_L2 (n : Nat) (l1 : Int32) (l2 : Int32) (l3 : Int32) (σ : ST) : Option (Int32 × ST) := loopN (α := Int32 × Int32 × Int32 × ST) (fun k a => fX5_alike_B2 (fun l1 l2 l3 σ => k (l1, l2, l3, σ)) a.1 a.2.1 a.2.2.1 a.2.2.2) n (l1, l2, l3, σ)
theorem xX5_alike_L2 (n : Nat) (l1 : Int32) (l2 : Int32) (l3 : Int32) (σ : ST) : AW wlM yX5_alike cX5_alike 4 (some .int) rmX5_alike emI (fX5_alike_L2 n l1 l2 l3 σ) 2 [some (.inr (some 0)), some (.inl l1), some (.inl l2), some (.inl l3)] [] σ :=
  aw_loop (α := Int32 × Int32 × Int32 × ST) (Lf := fun a => [some (.inr (some 0)), some (.inl (a.1)), some (.inl (a.2.1)), some (.inl (a.2.2.1))]) (sf := fun a => a.2.2.2) (fun k hk a => by
    obtain ⟨l1, l2, l3, σ⟩ := a
    exact xX5_alike_B2 (fun l1 l2 l3 σ => k (l1, l2, l3, σ)) (fun l1 l2 l3 σ => hk (l1, l2, l3, σ)) l1 l2 l3 σ) n (l1, l2, l3, σ)
noncomputable def fX5_alike (a1 : Int32) (a2 : Int32) (σ : ST) : Option (Int32 × ST) :=
  fX5_alike_L2 FU a1 a2 0 σ
set_option maxRecDepth 10000 in
theorem xX5_alike (a1 : Int32) (a2 : Int32) (σ : ST) : MS wlM yX5_alike cX5_alike 4 (some .int) rmX5_alike emI [.inr (some 0), .inl a1, .inl a2] σ (fX5_alike a1 a2 σ) := by
  refine MS.of (by decide +kernel) (Nat.le_of_ble_eq_true rfl) ?_
  show AW wlM yX5_alike cX5_alike 4 (some .int) rmX5_alike emI (fX5_alike a1 a2 σ) 0 [some (.inr (some 0)), some (.inl a1), some (.inl a2), none] [] σ
  unfold fX5_alike
  refine aw_iconst (pc := 0) (v := 0) dX5_alike_0 (by decide) ?_
  refine aw_stn (pc := 1) (L' := [some (.inr (some 0)), some (.inl a1), some (.inl a2), some (.inl 0)]) dX5_alike_1 rfl (by decide) rfl ?_
  exact aw_wk (wk_same (wk_same (wk_same (wk_same wk_nil)))) (xX5_alike_L2 FU a1 a2 0 σ)
abbrev rmX5_sure : Room := { frames := 5, cells := 0, slots := 0, locals := 114 }
noncomputable def fX5_sure_J160 (k98 : Int32 → Int32 → Int32 → Int32 → Int32 → ST → Option (Int32 × ST)) (k108 : Int32 → Int32 → Int32 → Int32 → Int32 → Int32 → ST → Option (Int32 × ST)) (l3 : Int32) (l4 : Int32) (l5 : Int32) (l6 : Int32) (l7 : Int32) (l8 : Int32) (σ : ST) : Option (Int32 × ST) :=
  bindv (l8 + 1) (fun v12 => k108 l3 l4 l5 l6 l7 v12 σ)
set_option maxRecDepth 10000 in
theorem xX5_sure_J160 (k98 : Int32 → Int32 → Int32 → Int32 → Int32 → ST → Option (Int32 × ST)) (k108 : Int32 → Int32 → Int32 → Int32 → Int32 → Int32 → ST → Option (Int32 × ST)) (hk98 : ∀ (l3 : Int32) (l4 : Int32) (l5 : Int32) (l6 : Int32) (l7 : Int32) (σ : ST), AW wlM yX5_sure cX5_sure 9 (some .int) rmX5_sure emI (k98 l3 l4 l5 l6 l7 σ) 98 [some (.inr (some 0)), none, none, some (.inl l3), some (.inl l4), some (.inl l5), some (.inl l6), some (.inl l7), none] [] σ) (hk108 : ∀ (l3 : Int32) (l4 : Int32) (l5 : Int32) (l6 : Int32) (l7 : Int32) (l8 : Int32) (σ : ST), AW wlM yX5_sure cX5_sure 9 (some .int) rmX5_sure emI (k108 l3 l4 l5 l6 l7 l8 σ) 108 [some (.inr (some 0)), none, none, some (.inl l3), some (.inl l4), some (.inl l5), some (.inl l6), some (.inl l7), some (.inl l8)] [] σ) (l3 : Int32) (l4 : Int32) (l5 : Int32) (l6 : Int32) (l7 : Int32) (l8 : Int32) (σ : ST) : AW wlM yX5_sure cX5_sure 9 (some .int) rmX5_sure emI (fX5_sure_J160 k98 k108 l3 l4 l5 l6 l7 l8 σ) 160 [some (.inr (some 0)), none, none, some (.inl l3), some (.inl l4), some (.inl l5), some (.inl l6), some (.inl l7), some (.inl l8)] [] σ := by
  unfold fX5_sure_J160
  refine aw_iincB (pc := 160) (v := 1) (Lf := fun v12 => [some (.inr (some 0)), none, none, some (.inl l3), some (.inl l4), some (.inl l5), some (.inl l6), some (.inl l7), some (.inl v12)]) dX5_sure_160 rfl (by decide) (by decide) (fun _ => rfl) (fun v12 => ?_)
  refine aw_goto (pc := 163) (tgt := 108) dX5_sure_163 (by decide) ?_
  exact aw_wk (wk_same (wk_none (wk_none (wk_same (wk_same (wk_same (wk_same (wk_same (wk_same wk_nil))))))))) (hk108 l3 l4 l5 l6 l7 v12 σ)
noncomputable def fX5_sure_B108 (k98 : Int32 → Int32 → Int32 → Int32 → Int32 → ST → Option (Int32 × ST)) (k108 : Int32 → Int32 → Int32 → Int32 → Int32 → Int32 → ST → Option (Int32 × ST)) (l3 : Int32) (l4 : Int32) (l5 : Int32) (l6 : Int32) (l7 : Int32) (l8 : Int32) (σ : ST) : Option (Int32 × ST) :=
  if ib l7 20 = true then if (σ.1 20 l7.toNatClampNeg) ≤ l8 then (bindv (l7 + 1) (fun v9 => k98 l3 l4 l5 l6 v9 σ)) else (if ib ((10 * l7) + l8) 200 = true then cb (fX5_findRow l7 (σ.1 19 ((10 * l7) + l8).toNatClampNeg) σ) (fun r10 σ11 => if l3 < (σ11.1 0 30) then (fX5_sure_J160 k98 k108 l3 l4 l5 l6 l7 l8 σ11) else (cb (fX5_alike l5 l6 σ11) (fun r13 σ14 => fX5_sure_J160 k98 k108 l3 l4 r13 0 l7 l8 σ14))) else none) else none
set_option maxRecDepth 10000 in
theorem xX5_sure_B108 (k98 : Int32 → Int32 → Int32 → Int32 → Int32 → ST → Option (Int32 × ST)) (k108 : Int32 → Int32 → Int32 → Int32 → Int32 → Int32 → ST → Option (Int32 × ST)) (hk98 : ∀ (l3 : Int32) (l4 : Int32) (l5 : Int32) (l6 : Int32) (l7 : Int32) (σ : ST), AW wlM yX5_sure cX5_sure 9 (some .int) rmX5_sure emI (k98 l3 l4 l5 l6 l7 σ) 98 [some (.inr (some 0)), none, none, some (.inl l3), some (.inl l4), some (.inl l5), some (.inl l6), some (.inl l7), none] [] σ) (hk108 : ∀ (l3 : Int32) (l4 : Int32) (l5 : Int32) (l6 : Int32) (l7 : Int32) (l8 : Int32) (σ : ST), AW wlM yX5_sure cX5_sure 9 (some .int) rmX5_sure emI (k108 l3 l4 l5 l6 l7 l8 σ) 108 [some (.inr (some 0)), none, none, some (.inl l3), some (.inl l4), some (.inl l5), some (.inl l6), some (.inl l7), some (.inl l8)] [] σ) (l3 : Int32) (l4 : Int32) (l5 : Int32) (l6 : Int32) (l7 : Int32) (l8 : Int32) (σ : ST) : AW wlM yX5_sure cX5_sure 9 (some .int) rmX5_sure emI (fX5_sure_B108 k98 k108 l3 l4 l5 l6 l7 l8 σ) 108 [some (.inr (some 0)), none, none, some (.inl l3), some (.inl l4), some (.inl l5), some (.inl l6), some (.inl l7), some (.inl l8)] [] σ := by
  unfold fX5_sure_B108
  refine aw_iload (pc := 108) dX5_sure_108 rfl ?_
  refine aw_aload_n (pc := 110) dX5_sure_110 rfl rfl ?_
  refine aw_get (pc := 111) (v := .inr (some 20)) foX5_75 (atM0 _) rfl dX5_sure_111 ?_
  refine aw_iload (pc := 114) dX5_sure_114 rfl ?_
  refine aw_iald' (pc := 116) (atM20 _) dX5_sure_116 ?_
  refine aw_icmp_ge (pc := 117) (tgt := 166) dX5_sure_117 (by decide) (fun _ => ?_) (fun _ => ?_)
  · refine aw_iincB (pc := 166) (v := 1) (Lf := fun v9 => [some (.inr (some 0)), none, none, some (.inl l3), some (.inl l4), some (.inl l5), some (.inl l6), some (.inl v9), some (.inl l8)]) dX5_sure_166 rfl (by decide) (by decide) (fun _ => rfl) (fun v9 => ?_)
    refine aw_goto (pc := 169) (tgt := 98) dX5_sure_169 (by decide) ?_
    exact aw_wk (wk_same (wk_none (wk_none (wk_same (wk_same (wk_same (wk_same (wk_same (wk_none wk_nil))))))))) (hk98 l3 l4 l5 l6 v9 σ)
  refine aw_aload_n (pc := 120) dX5_sure_120 rfl rfl ?_
  refine aw_iload (pc := 121) dX5_sure_121 rfl ?_
  refine aw_aload_n (pc := 123) dX5_sure_123 rfl rfl ?_
  refine aw_get (pc := 124) (v := .inr (some 19)) foX5_72 (atM0 _) rfl dX5_sure_124 ?_
  refine aw_bipush (pc := 127) (v := 10) dX5_sure_127 (by decide) ?_
  refine aw_iload (pc := 129) dX5_sure_129 rfl ?_
  refine aw_imul (pc := 131) dX5_sure_131 ?_
  refine aw_iload (pc := 132) dX5_sure_132 rfl ?_
  refine aw_iadd (pc := 134) dX5_sure_134 ?_
  refine aw_iald' (pc := 135) (atM19 _) dX5_sure_135 ?_
  refine aw_cVV (pc := 136) (st := []) (xX5_findRow l7 (σ.1 19 ((10 * l7) + l8).toNatClampNeg) σ) (atM0 _) rfl ckX5_172 ⟨rfl, rfl, by decide, by decide⟩ (Nat.le_of_ble_eq_true rfl) dX5_sure_136 rfl (fun r10 σ11 => ?_)
  refine aw_aload_n (pc := 139) dX5_sure_139 rfl rfl ?_
  refine aw_get (pc := 140) (v := .inl (σ11.1 0 30)) foX5_169 (atM0 _) rfl dX5_sure_140 ?_
  refine aw_iload_n (pc := 143) dX5_sure_143 rfl rfl ?_
  refine aw_icmp_gt (pc := 144) (tgt := 160) dX5_sure_144 (by decide) (fun _ => ?_) (fun _ => ?_)
  · exact aw_wk (wk_same (wk_none (wk_none (wk_same (wk_same (wk_same (wk_same (wk_same (wk_same wk_nil))))))))) (xX5_sure_J160 k98 k108 hk98 hk108 l3 l4 l5 l6 l7 l8 σ11)
  refine aw_aload_n (pc := 147) dX5_sure_147 rfl rfl ?_
  refine aw_iload (pc := 148) dX5_sure_148 rfl ?_
  refine aw_iload (pc := 150) dX5_sure_150 rfl ?_
  refine aw_cVI (pc := 152) (st := []) (xX5_alike l5 l6 σ11) (atM0 _) rfl ckX5_185 ⟨rfl, rfl, by decide, by decide⟩ (Nat.le_of_ble_eq_true rfl) dX5_sure_152 rfl (fun r13 σ14 => ?_)
  refine aw_st (pc := 155) (L' := [some (.inr (some 0)), none, none, some (.inl l3), some (.inl l4), some (.inl r13), some (.inl l6), some (.inl l7), some (.inl l8)]) dX5_sure_155 (by decide) rfl ?_
  refine aw_iconst (pc := 157) (v := 0) dX5_sure_157 (by decide) ?_
  refine aw_st (pc := 158) (L' := [some (.inr (some 0)), none, none, some (.inl l3), some (.inl l4), some (.inl r13), some (.inl 0), some (.inl l7), some (.inl l8)]) dX5_sure_158 (by decide) rfl ?_
  exact aw_wk (wk_same (wk_none (wk_none (wk_same (wk_same (wk_same (wk_same (wk_same (wk_same wk_nil))))))))) (xX5_sure_J160 k98 k108 hk98 hk108 l3 l4 r13 0 l7 l8 σ14)
noncomputable def fX5_sure_L108 (k98 : Int32 → Int32 → Int32 → Int32 → Int32 → ST → Option (Int32 × ST)) (n : Nat) (l3 : Int32) (l4 : Int32) (l5 : Int32) (l6 : Int32) (l7 : Int32) (l8 : Int32) (σ : ST) : Option (Int32 × ST) := loopN (α := Int32 × Int32 × Int32 × Int32 × Int32 × Int32 × ST) (fun k a => fX5_sure_B108 k98 (fun l3 l4 l5 l6 l7 l8 σ => k (l3, l4, l5, l6, l7, l8, σ)) a.1 a.2.1 a.2.2.1 a.2.2.2.1 a.2.2.2.2.1 a.2.2.2.2.2.1 a.2.2.2.2.2.2) n (l3, l4, l5, l6, l7, l8, σ)
theorem xX5_sure_L108 (k98 : Int32 → Int32 → Int32 → Int32 → Int32 → ST → Option (Int32 × ST)) (hk98 : ∀ (l3 : Int32) (l4 : Int32) (l5 : Int32) (l6 : Int32) (l7 : Int32) (σ : ST), AW wlM yX5_sure cX5_sure 9 (some .int) rmX5_sure emI (k98 l3 l4 l5 l6 l7 σ) 98 [some (.inr (some 0)), none, none, some (.inl l3), some (.inl l4), some (.inl l5), some (.inl l6), some (.inl l7), none] [] σ) (n : Nat) (l3 : Int32) (l4 : Int32) (l5 : Int32) (l6 : Int32) (l7 : Int32) (l8 : Int32) (σ : ST) : AW wlM yX5_sure cX5_sure 9 (some .int) rmX5_sure emI (fX5_sure_L108 k98 n l3 l4 l5 l6 l7 l8 σ) 108 [some (.inr (some 0)), none, none, some (.inl l3), some (.inl l4), some (.inl l5), some (.inl l6), some (.inl l7), some (.inl l8)] [] σ :=
  aw_loop (α := Int32 × Int32 × Int32 × Int32 × Int32 × Int32 × ST) (Lf := fun a => [some (.inr (some 0)), none, none, some (.inl (a.1)), some (.inl (a.2.1)), some (.inl (a.2.2.1)), some (.inl (a.2.2.2.1)), some (.inl (a.2.2.2.2.1)), some (.inl (a.2.2.2.2.2.1))]) (sf := fun a => a.2.2.2.2.2.2) (fun k hk a => by
    obtain ⟨l3, l4, l5, l6, l7, l8, σ⟩ := a
    exact xX5_sure_B108 k98 (fun l3 l4 l5 l6 l7 l8 σ => k (l3, l4, l5, l6, l7, l8, σ)) hk98 (fun l3 l4 l5 l6 l7 l8 σ => hk (l3, l4, l5, l6, l7, l8, σ)) l3 l4 l5 l6 l7 l8 σ) n (l3, l4, l5, l6, l7, l8, σ)
noncomputable def fX5_sure_B98 (k98 : Int32 → Int32 → Int32 → Int32 → Int32 → ST → Option (Int32 × ST)) (l3 : Int32) (l4 : Int32) (l5 : Int32) (l6 : Int32) (l7 : Int32) (σ : ST) : Option (Int32 × ST) :=
  if l4 ≤ l7 then (some (l5, σ)) else (fX5_sure_L108 k98 FU l3 l4 l5 l6 l7 0 σ)
set_option maxRecDepth 10000 in
theorem xX5_sure_B98 (k98 : Int32 → Int32 → Int32 → Int32 → Int32 → ST → Option (Int32 × ST)) (hk98 : ∀ (l3 : Int32) (l4 : Int32) (l5 : Int32) (l6 : Int32) (l7 : Int32) (σ : ST), AW wlM yX5_sure cX5_sure 9 (some .int) rmX5_sure emI (k98 l3 l4 l5 l6 l7 σ) 98 [some (.inr (some 0)), none, none, some (.inl l3), some (.inl l4), some (.inl l5), some (.inl l6), some (.inl l7), none] [] σ) (l3 : Int32) (l4 : Int32) (l5 : Int32) (l6 : Int32) (l7 : Int32) (σ : ST) : AW wlM yX5_sure cX5_sure 9 (some .int) rmX5_sure emI (fX5_sure_B98 k98 l3 l4 l5 l6 l7 σ) 98 [some (.inr (some 0)), none, none, some (.inl l3), some (.inl l4), some (.inl l5), some (.inl l6), some (.inl l7), none] [] σ := by
  unfold fX5_sure_B98
  refine aw_iload (pc := 98) dX5_sure_98 rfl ?_
  refine aw_iload (pc := 100) dX5_sure_100 rfl ?_
  refine aw_icmp_ge (pc := 102) (tgt := 172) dX5_sure_102 (by decide) (fun _ => ?_) (fun _ => ?_)
  · refine aw_iload (pc := 172) dX5_sure_172 rfl ?_
    exact aw_ret_i (pc := 174) rfl rfl rfl dX5_sure_174
  refine aw_iconst (pc := 105) (v := 0) dX5_sure_105 (by decide) ?_
  refine aw_st (pc := 106) (L' := [some (.inr (some 0)), none, none, some (.inl l3), some (.inl l4), some (.inl l5), some (.inl l6), some (.inl l7), some (.inl 0)]) dX5_sure_106 (by decide) rfl ?_
  exact aw_wk (wk_same (wk_none (wk_none (wk_same (wk_same (wk_same (wk_same (wk_same (wk_same wk_nil))))))))) (xX5_sure_L108 k98 hk98 FU l3 l4 l5 l6 l7 0 σ)
noncomputable def fX5_sure_L98 (n : Nat) (l3 : Int32) (l4 : Int32) (l5 : Int32) (l6 : Int32) (l7 : Int32) (σ : ST) : Option (Int32 × ST) := loopN (α := Int32 × Int32 × Int32 × Int32 × Int32 × ST) (fun k a => fX5_sure_B98 (fun l3 l4 l5 l6 l7 σ => k (l3, l4, l5, l6, l7, σ)) a.1 a.2.1 a.2.2.1 a.2.2.2.1 a.2.2.2.2.1 a.2.2.2.2.2) n (l3, l4, l5, l6, l7, σ)
theorem xX5_sure_L98 (n : Nat) (l3 : Int32) (l4 : Int32) (l5 : Int32) (l6 : Int32) (l7 : Int32) (σ : ST) : AW wlM yX5_sure cX5_sure 9 (some .int) rmX5_sure emI (fX5_sure_L98 n l3 l4 l5 l6 l7 σ) 98 [some (.inr (some 0)), none, none, some (.inl l3), some (.inl l4), some (.inl l5), some (.inl l6), some (.inl l7), none] [] σ :=
  aw_loop (α := Int32 × Int32 × Int32 × Int32 × Int32 × ST) (Lf := fun a => [some (.inr (some 0)), none, none, some (.inl (a.1)), some (.inl (a.2.1)), some (.inl (a.2.2.1)), some (.inl (a.2.2.2.1)), some (.inl (a.2.2.2.2.1)), none]) (sf := fun a => a.2.2.2.2.2) (fun k hk a => by
    obtain ⟨l3, l4, l5, l6, l7, σ⟩ := a
    exact xX5_sure_B98 (fun l3 l4 l5 l6 l7 σ => k (l3, l4, l5, l6, l7, σ)) (fun l3 l4 l5 l6 l7 σ => hk (l3, l4, l5, l6, l7, σ)) l3 l4 l5 l6 l7 σ) n (l3, l4, l5, l6, l7, σ)
noncomputable def fX5_sure_J95 (l3 : Int32) (l4 : Int32) (l5 : Int32) (l6 : Int32) (σ : ST) : Option (Int32 × ST) :=
  fX5_sure_L98 FU l3 l4 l5 l6 0 σ
set_option maxRecDepth 10000 in
theorem xX5_sure_J95 (l3 : Int32) (l4 : Int32) (l5 : Int32) (l6 : Int32) (σ : ST) : AW wlM yX5_sure cX5_sure 9 (some .int) rmX5_sure emI (fX5_sure_J95 l3 l4 l5 l6 σ) 95 [some (.inr (some 0)), none, none, some (.inl l3), some (.inl l4), some (.inl l5), some (.inl l6), none, none] [] σ := by
  unfold fX5_sure_J95
  refine aw_iconst (pc := 95) (v := 0) dX5_sure_95 (by decide) ?_
  refine aw_st (pc := 96) (L' := [some (.inr (some 0)), none, none, some (.inl l3), some (.inl l4), some (.inl l5), some (.inl l6), some (.inl 0), none]) dX5_sure_96 (by decide) rfl ?_
  exact aw_wk (wk_same (wk_none (wk_none (wk_same (wk_same (wk_same (wk_same (wk_same (wk_none wk_nil))))))))) (xX5_sure_L98 FU l3 l4 l5 l6 0 σ)
noncomputable def fX5_sure_B61 (k61 : Int32 → Int32 → Int32 → Int32 → ST → Option (Int32 × ST)) (l3 : Int32) (l4 : Int32) (l5 : Int32) (l7 : Int32) (σ : ST) : Option (Int32 × ST) :=
  if l4 ≤ l7 then (cb (fX5_alike l5 1 σ) (fun r15 σ16 => fX5_sure_J95 l3 l4 r15 0 σ16)) else (if ib l7 20 = true then bindv (stI σ 22 l7.toNatClampNeg (-5)) (fun σ17 => bindv (l7 + 1) (fun v18 => k61 l3 l4 l5 v18 σ17)) else none)
set_option maxRecDepth 10000 in
theorem xX5_sure_B61 (k61 : Int32 → Int32 → Int32 → Int32 → ST → Option (Int32 × ST)) (hk61 : ∀ (l3 : Int32) (l4 : Int32) (l5 : Int32) (l7 : Int32) (σ : ST), AW wlM yX5_sure cX5_sure 9 (some .int) rmX5_sure emI (k61 l3 l4 l5 l7 σ) 61 [some (.inr (some 0)), none, none, some (.inl l3), some (.inl l4), some (.inl l5), none, some (.inl l7), none] [] σ) (l3 : Int32) (l4 : Int32) (l5 : Int32) (l7 : Int32) (σ : ST) : AW wlM yX5_sure cX5_sure 9 (some .int) rmX5_sure emI (fX5_sure_B61 k61 l3 l4 l5 l7 σ) 61 [some (.inr (some 0)), none, none, some (.inl l3), some (.inl l4), some (.inl l5), none, some (.inl l7), none] [] σ := by
  unfold fX5_sure_B61
  refine aw_iload (pc := 61) dX5_sure_61 rfl ?_
  refine aw_iload (pc := 63) dX5_sure_63 rfl ?_
  refine aw_icmp_ge (pc := 65) (tgt := 83) dX5_sure_65 (by decide) (fun _ => ?_) (fun _ => ?_)
  · refine aw_aload_n (pc := 83) dX5_sure_83 rfl rfl ?_
    refine aw_iload (pc := 84) dX5_sure_84 rfl ?_
    refine aw_iconst (pc := 86) (v := 1) dX5_sure_86 (by decide) ?_
    refine aw_cVI (pc := 87) (st := []) (xX5_alike l5 1 σ) (atM0 _) rfl ckX5_185 ⟨rfl, rfl, by decide, by decide⟩ (Nat.le_of_ble_eq_true rfl) dX5_sure_87 rfl (fun r15 σ16 => ?_)
    refine aw_st (pc := 90) (L' := [some (.inr (some 0)), none, none, some (.inl l3), some (.inl l4), some (.inl r15), none, some (.inl l7), none]) dX5_sure_90 (by decide) rfl ?_
    refine aw_iconst (pc := 92) (v := 0) dX5_sure_92 (by decide) ?_
    refine aw_st (pc := 93) (L' := [some (.inr (some 0)), none, none, some (.inl l3), some (.inl l4), some (.inl r15), some (.inl 0), some (.inl l7), none]) dX5_sure_93 (by decide) rfl ?_
    exact aw_wk (wk_same (wk_none (wk_none (wk_same (wk_same (wk_same (wk_same (wk_none (wk_none wk_nil))))))))) (xX5_sure_J95 l3 l4 r15 0 σ16)
  refine aw_aload_n (pc := 68) dX5_sure_68 rfl rfl ?_
  refine aw_get (pc := 69) (v := .inr (some 22)) foX5_81 (atM0 _) rfl dX5_sure_69 ?_
  refine aw_iload (pc := 72) dX5_sure_72 rfl ?_
  refine aw_bipush (pc := 74) (v := (-5)) dX5_sure_74 (by decide) ?_
  refine aw_iastB (pc := 76) (atM22 _) (stM22 _ _ _) dX5_sure_76 (fun σ17 => ?_)
  refine aw_iincB (pc := 77) (v := 1) (Lf := fun v18 => [some (.inr (some 0)), none, none, some (.inl l3), some (.inl l4), some (.inl l5), none, some (.inl v18), none]) dX5_sure_77 rfl (by decide) (by decide) (fun _ => rfl) (fun v18 => ?_)
  refine aw_goto (pc := 80) (tgt := 61) dX5_sure_80 (by decide) ?_
  exact aw_wk (wk_same (wk_none (wk_none (wk_same (wk_same (wk_same (wk_none (wk_same (wk_none wk_nil))))))))) (hk61 l3 l4 l5 v18 σ17)
noncomputable def fX5_sure_L61 (n : Nat) (l3 : Int32) (l4 : Int32) (l5 : Int32) (l7 : Int32) (σ : ST) : Option (Int32 × ST) := loopN (α := Int32 × Int32 × Int32 × Int32 × ST) (fun k a => fX5_sure_B61 (fun l3 l4 l5 l7 σ => k (l3, l4, l5, l7, σ)) a.1 a.2.1 a.2.2.1 a.2.2.2.1 a.2.2.2.2) n (l3, l4, l5, l7, σ)
theorem xX5_sure_L61 (n : Nat) (l3 : Int32) (l4 : Int32) (l5 : Int32) (l7 : Int32) (σ : ST) : AW wlM yX5_sure cX5_sure 9 (some .int) rmX5_sure emI (fX5_sure_L61 n l3 l4 l5 l7 σ) 61 [some (.inr (some 0)), none, none, some (.inl l3), some (.inl l4), some (.inl l5), none, some (.inl l7), none] [] σ :=
  aw_loop (α := Int32 × Int32 × Int32 × Int32 × ST) (Lf := fun a => [some (.inr (some 0)), none, none, some (.inl (a.1)), some (.inl (a.2.1)), some (.inl (a.2.2.1)), none, some (.inl (a.2.2.2.1)), none]) (sf := fun a => a.2.2.2.2) (fun k hk a => by
    obtain ⟨l3, l4, l5, l7, σ⟩ := a
    exact xX5_sure_B61 (fun l3 l4 l5 l7 σ => k (l3, l4, l5, l7, σ)) (fun l3 l4 l5 l7 σ => hk (l3, l4, l5, l7, σ)) l3 l4 l5 l7 σ) n (l3, l4, l5, l7, σ)
noncomputable def fX5_sure (a1 : Int32) (a2 : Int32) (σ : ST) : Option (Int32 × ST) :=
  cb (fX5_isDrive a1 σ) (fun r1 σ2 => if r1 = 0 then (some ((-1), σ2)) else (cb (fX5_within a2 0 100000 σ2) (fun r3 σ4 => if r3 = 0 then (some ((-1), σ4)) else (cb (fX5_lay a1 σ4) (fun r5 σ6 => bindv ((σ6.1 0 30) + a2) (fun v7 => if ib a1 6 = true then bindv (σ6.1 13 a1.toNatClampNeg) (fun v8 => if v7 < ((σ6.1 0 17) * v8) then (fX5_sure_J95 v7 v8 v8 1 σ6) else (fX5_sure_L61 FU v7 v8 v8 0 σ6)) else none))))))
set_option maxRecDepth 10000 in
theorem xX5_sure (a1 : Int32) (a2 : Int32) (σ : ST) : MS wlM yX5_sure cX5_sure 9 (some .int) rmX5_sure emI [.inr (some 0), .inl a1, .inl a2] σ (fX5_sure a1 a2 σ) := by
  refine MS.of (by decide +kernel) (Nat.le_of_ble_eq_true rfl) ?_
  show AW wlM yX5_sure cX5_sure 9 (some .int) rmX5_sure emI (fX5_sure a1 a2 σ) 0 [some (.inr (some 0)), some (.inl a1), some (.inl a2), none, none, none, none, none, none] [] σ
  unfold fX5_sure
  refine aw_aload_n (pc := 0) dX5_sure_0 rfl rfl ?_
  refine aw_iload_n (pc := 1) dX5_sure_1 rfl rfl ?_
  refine aw_cVI (pc := 2) (st := []) (xX5_isDrive a1 σ) (atM0 _) rfl ckX5_144 ⟨rfl, rfl, by decide, by decide⟩ (Nat.le_of_ble_eq_true rfl) dX5_sure_2 rfl (fun r1 σ2 => ?_)
  refine aw_if_eq (pc := 5) (tgt := 18) dX5_sure_5 (by decide) (fun _ => ?_) (fun _ => ?_)
  · refine aw_iconst (pc := 18) (v := (-1)) dX5_sure_18 (by decide) ?_
    exact aw_ret_i (pc := 19) rfl rfl rfl dX5_sure_19
  refine aw_iload_n (pc := 8) dX5_sure_8 rfl rfl ?_
  refine aw_iconst (pc := 9) (v := 0) dX5_sure_9 (by decide) ?_
  refine aw_ldc (pc := 10) lcX5_184 dX5_sure_10 ?_
  refine aw_cSI (pc := 12) (st := []) (xX5_within a2 0 100000 σ2) ckX5_87 ⟨rfl, rfl, by decide, by decide⟩ (Nat.le_of_ble_eq_true rfl) dX5_sure_12 rfl (fun r3 σ4 => ?_)
  refine aw_if_ne (pc := 15) (tgt := 20) dX5_sure_15 (by decide) (fun _ => ?_) (fun _ => ?_)
  · refine aw_iconst (pc := 18) (v := (-1)) dX5_sure_18 (by decide) ?_
    exact aw_ret_i (pc := 19) rfl rfl rfl dX5_sure_19
  refine aw_aload_n (pc := 20) dX5_sure_20 rfl rfl ?_
  refine aw_iload_n (pc := 21) dX5_sure_21 rfl rfl ?_
  refine aw_cVV (pc := 22) (st := []) (xX5_lay a1 σ4) (atM0 _) rfl ckX5_175 ⟨rfl, rfl, by decide, by decide⟩ (Nat.le_of_ble_eq_true rfl) dX5_sure_22 rfl (fun r5 σ6 => ?_)
  refine aw_aload_n (pc := 25) dX5_sure_25 rfl rfl ?_
  refine aw_get (pc := 26) (v := .inl (σ6.1 0 30)) foX5_169 (atM0 _) rfl dX5_sure_26 ?_
  refine aw_iload_n (pc := 29) dX5_sure_29 rfl rfl ?_
  refine aw_iadd (pc := 30) dX5_sure_30 ?_
  refine aw_stnB (pc := 31) (Lf := fun v7 => [some (.inr (some 0)), some (.inl a1), some (.inl a2), some (.inl v7), none, none, none, none, none]) dX5_sure_31 rfl (by decide) (fun _ => rfl) (fun v7 => ?_)
  refine aw_aload_n (pc := 32) dX5_sure_32 rfl rfl ?_
  refine aw_get (pc := 33) (v := .inr (some 13)) foX5_47 (atM0 _) rfl dX5_sure_33 ?_
  refine aw_iload_n (pc := 36) dX5_sure_36 rfl rfl ?_
  refine aw_iald' (pc := 37) (atM13 _) dX5_sure_37 ?_
  refine aw_stB (pc := 38) (Lf := fun v8 => [some (.inr (some 0)), some (.inl a1), some (.inl a2), some (.inl v7), some (.inl v8), none, none, none, none]) dX5_sure_38 (by decide) (fun _ => rfl) (fun v8 => ?_)
  refine aw_iload (pc := 40) dX5_sure_40 rfl ?_
  refine aw_st (pc := 42) (L' := [some (.inr (some 0)), some (.inl a1), some (.inl a2), some (.inl v7), some (.inl v8), some (.inl v8), none, none, none]) dX5_sure_42 (by decide) rfl ?_
  refine aw_iconst (pc := 44) (v := 1) dX5_sure_44 (by decide) ?_
  refine aw_st (pc := 45) (L' := [some (.inr (some 0)), some (.inl a1), some (.inl a2), some (.inl v7), some (.inl v8), some (.inl v8), some (.inl 1), none, none]) dX5_sure_45 (by decide) rfl ?_
  refine aw_aload_n (pc := 47) dX5_sure_47 rfl rfl ?_
  refine aw_get (pc := 48) (v := .inl (σ6.1 0 17)) foX5_54 (atM0 _) rfl dX5_sure_48 ?_
  refine aw_iload (pc := 51) dX5_sure_51 rfl ?_
  refine aw_imul (pc := 53) dX5_sure_53 ?_
  refine aw_iload_n (pc := 54) dX5_sure_54 rfl rfl ?_
  refine aw_icmp_gt (pc := 55) (tgt := 95) dX5_sure_55 (by decide) (fun _ => ?_) (fun _ => ?_)
  · exact aw_wk (wk_same (wk_none (wk_none (wk_same (wk_same (wk_same (wk_same (wk_none (wk_none wk_nil))))))))) (xX5_sure_J95 v7 v8 v8 1 σ6)
  refine aw_iconst (pc := 58) (v := 0) dX5_sure_58 (by decide) ?_
  refine aw_st (pc := 59) (L' := [some (.inr (some 0)), some (.inl a1), some (.inl a2), some (.inl v7), some (.inl v8), some (.inl v8), some (.inl 1), some (.inl 0), none]) dX5_sure_59 (by decide) rfl ?_
  exact aw_wk (wk_same (wk_none (wk_none (wk_same (wk_same (wk_same (wk_none (wk_same (wk_none wk_nil))))))))) (xX5_sure_L61 FU v7 v8 v8 0 σ6)
abbrev rmX5_toll : Room := { frames := 5, cells := 0, slots := 0, locals := 114 }
noncomputable def fX5_toll_J82 (k22 : Int32 → Int32 → Int32 → Int32 → ST → Option (Int32 × ST)) (l1 : Int32) (l2 : Int32) (l3 : Int32) (l4 : Int32) (σ : ST) : Option (Int32 × ST) :=
  bindv (l4 + 1) (fun v5 => k22 l1 l2 l3 v5 σ)
set_option maxRecDepth 10000 in
theorem xX5_toll_J82 (k22 : Int32 → Int32 → Int32 → Int32 → ST → Option (Int32 × ST)) (hk22 : ∀ (l1 : Int32) (l2 : Int32) (l3 : Int32) (l4 : Int32) (σ : ST), AW wlM yX5_toll cX5_toll 5 (some .int) rmX5_toll emI (k22 l1 l2 l3 l4 σ) 22 [some (.inr (some 0)), some (.inl l1), some (.inl l2), some (.inl l3), some (.inl l4)] [] σ) (l1 : Int32) (l2 : Int32) (l3 : Int32) (l4 : Int32) (σ : ST) : AW wlM yX5_toll cX5_toll 5 (some .int) rmX5_toll emI (fX5_toll_J82 k22 l1 l2 l3 l4 σ) 82 [some (.inr (some 0)), some (.inl l1), some (.inl l2), some (.inl l3), some (.inl l4)] [] σ := by
  unfold fX5_toll_J82
  refine aw_iincB (pc := 82) (v := 1) (Lf := fun v5 => [some (.inr (some 0)), some (.inl l1), some (.inl l2), some (.inl l3), some (.inl v5)]) dX5_toll_82 rfl (by decide) (by decide) (fun _ => rfl) (fun v5 => ?_)
  refine aw_goto (pc := 85) (tgt := 22) dX5_toll_85 (by decide) ?_
  exact aw_wk (wk_same (wk_same (wk_same (wk_same (wk_same wk_nil))))) (hk22 l1 l2 l3 v5 σ)
noncomputable def fX5_toll_J72 (k22 : Int32 → Int32 → Int32 → Int32 → ST → Option (Int32 × ST)) (l1 : Int32) (l4 : Int32) (s0 : Int32) (s1 : Int32) (σ : ST) : Option (Int32 × ST) :=
  bindv (s1 + s0) (fun v6 => if ib l4 20 = true then bindv (σ.1 22 l4.toNatClampNeg) (fun v7 => fX5_toll_J82 k22 l1 v6 v7 l4 σ) else none)
set_option maxRecDepth 10000 in
theorem xX5_toll_J72 (k22 : Int32 → Int32 → Int32 → Int32 → ST → Option (Int32 × ST)) (hk22 : ∀ (l1 : Int32) (l2 : Int32) (l3 : Int32) (l4 : Int32) (σ : ST), AW wlM yX5_toll cX5_toll 5 (some .int) rmX5_toll emI (k22 l1 l2 l3 l4 σ) 22 [some (.inr (some 0)), some (.inl l1), some (.inl l2), some (.inl l3), some (.inl l4)] [] σ) (l1 : Int32) (l4 : Int32) (s0 : Int32) (s1 : Int32) (σ : ST) : AW wlM yX5_toll cX5_toll 5 (some .int) rmX5_toll emI (fX5_toll_J72 k22 l1 l4 s0 s1 σ) 72 [some (.inr (some 0)), some (.inl l1), none, none, some (.inl l4)] [.inl s0, .inl s1] σ := by
  unfold fX5_toll_J72
  refine aw_iadd (pc := 72) dX5_toll_72 ?_
  refine aw_stnB (pc := 73) (Lf := fun v6 => [some (.inr (some 0)), some (.inl l1), some (.inl v6), none, some (.inl l4)]) dX5_toll_73 rfl (by decide) (fun _ => rfl) (fun v6 => ?_)
  refine aw_aload_n (pc := 74) dX5_toll_74 rfl rfl ?_
  refine aw_get (pc := 75) (v := .inr (some 22)) foX5_81 (atM0 _) rfl dX5_toll_75 ?_
  refine aw_iload (pc := 78) dX5_toll_78 rfl ?_
  refine aw_iald' (pc := 80) (atM22 _) dX5_toll_80 ?_
  refine aw_stnB (pc := 81) (Lf := fun v7 => [some (.inr (some 0)), some (.inl l1), some (.inl v6), some (.inl v7), some (.inl l4)]) dX5_toll_81 rfl (by decide) (fun _ => rfl) (fun v7 => ?_)
  exact aw_wk (wk_same (wk_same (wk_same (wk_same (wk_same wk_nil))))) (xX5_toll_J82 k22 hk22 l1 v6 v7 l4 σ)
noncomputable def fX5_toll_B22 (k22 : Int32 → Int32 → Int32 → Int32 → ST → Option (Int32 × ST)) (l1 : Int32) (l2 : Int32) (l3 : Int32) (l4 : Int32) (σ : ST) : Option (Int32 × ST) :=
  if ib l1 6 = true then if (σ.1 13 l1.toNatClampNeg) ≤ l4 then (some (l2, σ)) else (if ib l4 20 = true then if (σ.1 22 l4.toNatClampNeg) = (-5) then (fX5_toll_J82 k22 l1 l2 l3 l4 σ) else (if 0 ≤ l3 then (if ib l4 20 = true then if ib ((150 * l3) + (σ.1 22 l4.toNatClampNeg)) 22500 = true then fX5_toll_J72 k22 l1 l4 (σ.1 16 ((150 * l3) + (σ.1 22 l4.toNatClampNeg)).toNatClampNeg) l2 σ else none else none) else (fX5_toll_J72 k22 l1 l4 0 l2 σ)) else none) else none
set_option maxRecDepth 10000 in
theorem xX5_toll_B22 (k22 : Int32 → Int32 → Int32 → Int32 → ST → Option (Int32 × ST)) (hk22 : ∀ (l1 : Int32) (l2 : Int32) (l3 : Int32) (l4 : Int32) (σ : ST), AW wlM yX5_toll cX5_toll 5 (some .int) rmX5_toll emI (k22 l1 l2 l3 l4 σ) 22 [some (.inr (some 0)), some (.inl l1), some (.inl l2), some (.inl l3), some (.inl l4)] [] σ) (l1 : Int32) (l2 : Int32) (l3 : Int32) (l4 : Int32) (σ : ST) : AW wlM yX5_toll cX5_toll 5 (some .int) rmX5_toll emI (fX5_toll_B22 k22 l1 l2 l3 l4 σ) 22 [some (.inr (some 0)), some (.inl l1), some (.inl l2), some (.inl l3), some (.inl l4)] [] σ := by
  unfold fX5_toll_B22
  refine aw_iload (pc := 22) dX5_toll_22 rfl ?_
  refine aw_aload_n (pc := 24) dX5_toll_24 rfl rfl ?_
  refine aw_get (pc := 25) (v := .inr (some 13)) foX5_47 (atM0 _) rfl dX5_toll_25 ?_
  refine aw_iload_n (pc := 28) dX5_toll_28 rfl rfl ?_
  refine aw_iald' (pc := 29) (atM13 _) dX5_toll_29 ?_
  refine aw_icmp_ge (pc := 30) (tgt := 88) dX5_toll_30 (by decide) (fun _ => ?_) (fun _ => ?_)
  · refine aw_iload_n (pc := 88) dX5_toll_88 rfl rfl ?_
    exact aw_ret_i (pc := 89) rfl rfl rfl dX5_toll_89
  refine aw_aload_n (pc := 33) dX5_toll_33 rfl rfl ?_
  refine aw_get (pc := 34) (v := .inr (some 22)) foX5_81 (atM0 _) rfl dX5_toll_34 ?_
  refine aw_iload (pc := 37) dX5_toll_37 rfl ?_
  refine aw_iald' (pc := 39) (atM22 _) dX5_toll_39 ?_
  refine aw_bipush (pc := 40) (v := (-5)) dX5_toll_40 (by decide) ?_
  refine aw_icmp_eq (pc := 42) (tgt := 82) dX5_toll_42 (by decide) (fun _ => ?_) (fun _ => ?_)
  · exact aw_wk (wk_same (wk_same (wk_same (wk_same (wk_same wk_nil))))) (xX5_toll_J82 k22 hk22 l1 l2 l3 l4 σ)
  refine aw_iload_n (pc := 45) dX5_toll_45 rfl rfl ?_
  refine aw_iload_n (pc := 46) dX5_toll_46 rfl rfl ?_
  refine aw_if_ge (pc := 47) (tgt := 54) dX5_toll_47 (by decide) (fun _ => ?_) (fun _ => ?_)
  · refine aw_aload_n (pc := 54) dX5_toll_54 rfl rfl ?_
    refine aw_get (pc := 55) (v := .inr (some 16)) foX5_63 (atM0 _) rfl dX5_toll_55 ?_
    refine aw_sipush (pc := 58) (v := 150) dX5_toll_58 (by decide) ?_
    refine aw_iload_n (pc := 61) dX5_toll_61 rfl rfl ?_
    refine aw_imul (pc := 62) dX5_toll_62 ?_
    refine aw_aload_n (pc := 63) dX5_toll_63 rfl rfl ?_
    refine aw_get (pc := 64) (v := .inr (some 22)) foX5_81 (atM0 _) rfl dX5_toll_64 ?_
    refine aw_iload (pc := 67) dX5_toll_67 rfl ?_
    refine aw_iald' (pc := 69) (atM22 _) dX5_toll_69 ?_
    refine aw_iadd (pc := 70) dX5_toll_70 ?_
    refine aw_iald' (pc := 71) (atM16 _) dX5_toll_71 ?_
    exact aw_wk (wk_same (wk_same (wk_none (wk_none (wk_same wk_nil))))) (xX5_toll_J72 k22 hk22 l1 l4 (σ.1 16 ((150 * l3) + (σ.1 22 l4.toNatClampNeg)).toNatClampNeg) l2 σ)
  refine aw_iconst (pc := 50) (v := 0) dX5_toll_50 (by decide) ?_
  refine aw_goto (pc := 51) (tgt := 72) dX5_toll_51 (by decide) ?_
  exact aw_wk (wk_same (wk_same (wk_none (wk_none (wk_same wk_nil))))) (xX5_toll_J72 k22 hk22 l1 l4 0 l2 σ)
noncomputable def fX5_toll_L22 (n : Nat) (l1 : Int32) (l2 : Int32) (l3 : Int32) (l4 : Int32) (σ : ST) : Option (Int32 × ST) := loopN (α := Int32 × Int32 × Int32 × Int32 × ST) (fun k a => fX5_toll_B22 (fun l1 l2 l3 l4 σ => k (l1, l2, l3, l4, σ)) a.1 a.2.1 a.2.2.1 a.2.2.2.1 a.2.2.2.2) n (l1, l2, l3, l4, σ)
theorem xX5_toll_L22 (n : Nat) (l1 : Int32) (l2 : Int32) (l3 : Int32) (l4 : Int32) (σ : ST) : AW wlM yX5_toll cX5_toll 5 (some .int) rmX5_toll emI (fX5_toll_L22 n l1 l2 l3 l4 σ) 22 [some (.inr (some 0)), some (.inl l1), some (.inl l2), some (.inl l3), some (.inl l4)] [] σ :=
  aw_loop (α := Int32 × Int32 × Int32 × Int32 × ST) (Lf := fun a => [some (.inr (some 0)), some (.inl (a.1)), some (.inl (a.2.1)), some (.inl (a.2.2.1)), some (.inl (a.2.2.2.1))]) (sf := fun a => a.2.2.2.2) (fun k hk a => by
    obtain ⟨l1, l2, l3, l4, σ⟩ := a
    exact xX5_toll_B22 (fun l1 l2 l3 l4 σ => k (l1, l2, l3, l4, σ)) (fun l1 l2 l3 l4 σ => hk (l1, l2, l3, l4, σ)) l1 l2 l3 l4 σ) n (l1, l2, l3, l4, σ)
noncomputable def fX5_toll (a1 : Int32) (σ : ST) : Option (Int32 × ST) :=
  cb (fX5_isDrive a1 σ) (fun r1 σ2 => if r1 = 0 then (some ((-1), σ2)) else (cb (fX5_lay a1 σ2) (fun r3 σ4 => fX5_toll_L22 FU a1 0 (-1) 0 σ4)))
set_option maxRecDepth 10000 in
theorem xX5_toll (a1 : Int32) (σ : ST) : MS wlM yX5_toll cX5_toll 5 (some .int) rmX5_toll emI [.inr (some 0), .inl a1] σ (fX5_toll a1 σ) := by
  refine MS.of (by decide +kernel) (Nat.le_of_ble_eq_true rfl) ?_
  show AW wlM yX5_toll cX5_toll 5 (some .int) rmX5_toll emI (fX5_toll a1 σ) 0 [some (.inr (some 0)), some (.inl a1), none, none, none] [] σ
  unfold fX5_toll
  refine aw_aload_n (pc := 0) dX5_toll_0 rfl rfl ?_
  refine aw_iload_n (pc := 1) dX5_toll_1 rfl rfl ?_
  refine aw_cVI (pc := 2) (st := []) (xX5_isDrive a1 σ) (atM0 _) rfl ckX5_144 ⟨rfl, rfl, by decide, by decide⟩ (Nat.le_of_ble_eq_true rfl) dX5_toll_2 rfl (fun r1 σ2 => ?_)
  refine aw_if_ne (pc := 5) (tgt := 10) dX5_toll_5 (by decide) (fun _ => ?_) (fun _ => ?_)
  · refine aw_iconst (pc := 8) (v := (-1)) dX5_toll_8 (by decide) ?_
    exact aw_ret_i (pc := 9) rfl rfl rfl dX5_toll_9
  refine aw_aload_n (pc := 10) dX5_toll_10 rfl rfl ?_
  refine aw_iload_n (pc := 11) dX5_toll_11 rfl rfl ?_
  refine aw_cVV (pc := 12) (st := []) (xX5_lay a1 σ2) (atM0 _) rfl ckX5_175 ⟨rfl, rfl, by decide, by decide⟩ (Nat.le_of_ble_eq_true rfl) dX5_toll_12 rfl (fun r3 σ4 => ?_)
  refine aw_iconst (pc := 15) (v := 0) dX5_toll_15 (by decide) ?_
  refine aw_stn (pc := 16) (L' := [some (.inr (some 0)), some (.inl a1), some (.inl 0), none, none]) dX5_toll_16 rfl (by decide) rfl ?_
  refine aw_iconst (pc := 17) (v := (-1)) dX5_toll_17 (by decide) ?_
  refine aw_stn (pc := 18) (L' := [some (.inr (some 0)), some (.inl a1), some (.inl 0), some (.inl (-1)), none]) dX5_toll_18 rfl (by decide) rfl ?_
  refine aw_iconst (pc := 19) (v := 0) dX5_toll_19 (by decide) ?_
  refine aw_st (pc := 20) (L' := [some (.inr (some 0)), some (.inl a1), some (.inl 0), some (.inl (-1)), some (.inl 0)]) dX5_toll_20 (by decide) rfl ?_
  exact aw_wk (wk_same (wk_same (wk_same (wk_same (wk_same wk_nil))))) (xX5_toll_L22 FU a1 0 (-1) 0 σ4)
abbrev rmX5_speed : Room := { frames := 5, cells := 0, slots := 0, locals := 114 }
noncomputable def fX5_speed_J47 (l1 : Int32) (l2 : Int32) (l3 : Int32) (σ : ST) : Option (Int32 × ST) :=
  if ib l2 20 = true then if (σ.1 22 l2.toNatClampNeg) = (-5) then (some ((-3), σ)) else (if ib l1 6 = true then if l3 < (σ.1 13 l1.toNatClampNeg) then (if ib l2 20 = true then if ib l3 20 = true then if ib ((150 * (σ.1 22 l2.toNatClampNeg)) + (σ.1 22 l3.toNatClampNeg)) 22500 = true then if ib ((20 * l1) + l3) 120 = true then if ib ((20 * l1) + l2) 120 = true then if (4 * ((σ.1 11 ((20 * l1) + l3).toNatClampNeg) - (σ.1 11 ((20 * l1) + l2).toNatClampNeg))) = 0 then none else some (((σ.1 15 ((150 * (σ.1 22 l2.toNatClampNeg)) + (σ.1 22 l3.toNatClampNeg)).toNatClampNeg) / (4 * ((σ.1 11 ((20 * l1) + l3).toNatClampNeg) - (σ.1 11 ((20 * l1) + l2).toNatClampNeg)))), σ) else none else none else none else none else none) else (some ((-3), σ)) else none) else none
set_option maxRecDepth 10000 in
theorem xX5_speed_J47 (l1 : Int32) (l2 : Int32) (l3 : Int32) (σ : ST) : AW wlM yX5_speed cX5_speed 4 (some .int) rmX5_speed emI (fX5_speed_J47 l1 l2 l3 σ) 47 [some (.inr (some 0)), some (.inl l1), some (.inl l2), some (.inl l3)] [] σ := by
  unfold fX5_speed_J47
  refine aw_aload_n (pc := 47) dX5_speed_47 rfl rfl ?_
  refine aw_get (pc := 48) (v := .inr (some 22)) foX5_81 (atM0 _) rfl dX5_speed_48 ?_
  refine aw_iload_n (pc := 51) dX5_speed_51 rfl rfl ?_
  refine aw_iald' (pc := 52) (atM22 _) dX5_speed_52 ?_
  refine aw_bipush (pc := 53) (v := (-5)) dX5_speed_53 (by decide) ?_
  refine aw_icmp_eq (pc := 55) (tgt := 68) dX5_speed_55 (by decide) (fun _ => ?_) (fun _ => ?_)
  · refine aw_bipush (pc := 68) (v := (-3)) dX5_speed_68 (by decide) ?_
    exact aw_ret_i (pc := 70) rfl rfl rfl dX5_speed_70
  refine aw_iload_n (pc := 58) dX5_speed_58 rfl rfl ?_
  refine aw_aload_n (pc := 59) dX5_speed_59 rfl rfl ?_
  refine aw_get (pc := 60) (v := .inr (some 13)) foX5_47 (atM0 _) rfl dX5_speed_60 ?_
  refine aw_iload_n (pc := 63) dX5_speed_63 rfl rfl ?_
  refine aw_iald' (pc := 64) (atM13 _) dX5_speed_64 ?_
  refine aw_icmp_lt (pc := 65) (tgt := 71) dX5_speed_65 (by decide) (fun _ => ?_) (fun _ => ?_)
  · refine aw_aload_n (pc := 71) dX5_speed_71 rfl rfl ?_
    refine aw_get (pc := 72) (v := .inr (some 15)) foX5_60 (atM0 _) rfl dX5_speed_72 ?_
    refine aw_sipush (pc := 75) (v := 150) dX5_speed_75 (by decide) ?_
    refine aw_aload_n (pc := 78) dX5_speed_78 rfl rfl ?_
    refine aw_get (pc := 79) (v := .inr (some 22)) foX5_81 (atM0 _) rfl dX5_speed_79 ?_
    refine aw_iload_n (pc := 82) dX5_speed_82 rfl rfl ?_
    refine aw_iald' (pc := 83) (atM22 _) dX5_speed_83 ?_
    refine aw_imul (pc := 84) dX5_speed_84 ?_
    refine aw_aload_n (pc := 85) dX5_speed_85 rfl rfl ?_
    refine aw_get (pc := 86) (v := .inr (some 22)) foX5_81 (atM0 _) rfl dX5_speed_86 ?_
    refine aw_iload_n (pc := 89) dX5_speed_89 rfl rfl ?_
    refine aw_iald' (pc := 90) (atM22 _) dX5_speed_90 ?_
    refine aw_iadd (pc := 91) dX5_speed_91 ?_
    refine aw_iald' (pc := 92) (atM15 _) dX5_speed_92 ?_
    refine aw_iconst (pc := 93) (v := 4) dX5_speed_93 (by decide) ?_
    refine aw_aload_n (pc := 94) dX5_speed_94 rfl rfl ?_
    refine aw_get (pc := 95) (v := .inr (some 11)) foX5_41 (atM0 _) rfl dX5_speed_95 ?_
    refine aw_bipush (pc := 98) (v := 20) dX5_speed_98 (by decide) ?_
    refine aw_iload_n (pc := 100) dX5_speed_100 rfl rfl ?_
    refine aw_imul (pc := 101) dX5_speed_101 ?_
    refine aw_iload_n (pc := 102) dX5_speed_102 rfl rfl ?_
    refine aw_iadd (pc := 103) dX5_speed_103 ?_
    refine aw_iald' (pc := 104) (atM11 _) dX5_speed_104 ?_
    refine aw_aload_n (pc := 105) dX5_speed_105 rfl rfl ?_
    refine aw_get (pc := 106) (v := .inr (some 11)) foX5_41 (atM0 _) rfl dX5_speed_106 ?_
    refine aw_bipush (pc := 109) (v := 20) dX5_speed_109 (by decide) ?_
    refine aw_iload_n (pc := 111) dX5_speed_111 rfl rfl ?_
    refine aw_imul (pc := 112) dX5_speed_112 ?_
    refine aw_iload_n (pc := 113) dX5_speed_113 rfl rfl ?_
    refine aw_iadd (pc := 114) dX5_speed_114 ?_
    refine aw_iald' (pc := 115) (atM11 _) dX5_speed_115 ?_
    refine aw_isub (pc := 116) dX5_speed_116 ?_
    refine aw_imul (pc := 117) dX5_speed_117 ?_
    refine aw_idivC (pc := 118) dX5_speed_118 (fun _ => ?_)
    exact aw_ret_i (pc := 119) rfl rfl rfl dX5_speed_119
  refine aw_bipush (pc := 68) (v := (-3)) dX5_speed_68 (by decide) ?_
  exact aw_ret_i (pc := 70) rfl rfl rfl dX5_speed_70
noncomputable def fX5_speed_B20 (k20 : Int32 → Int32 → Int32 → ST → Option (Int32 × ST)) (l1 : Int32) (l2 : Int32) (l3 : Int32) (σ : ST) : Option (Int32 × ST) :=
  if ib l1 6 = true then if (σ.1 13 l1.toNatClampNeg) ≤ l3 then (fX5_speed_J47 l1 l2 l3 σ) else (if ib l3 20 = true then if (σ.1 22 l3.toNatClampNeg) = (-5) then (bindv (l3 + 1) (fun v6 => k20 l1 l2 v6 σ)) else (fX5_speed_J47 l1 l2 l3 σ) else none) else none
set_option maxRecDepth 10000 in
theorem xX5_speed_B20 (k20 : Int32 → Int32 → Int32 → ST → Option (Int32 × ST)) (hk20 : ∀ (l1 : Int32) (l2 : Int32) (l3 : Int32) (σ : ST), AW wlM yX5_speed cX5_speed 4 (some .int) rmX5_speed emI (k20 l1 l2 l3 σ) 20 [some (.inr (some 0)), some (.inl l1), some (.inl l2), some (.inl l3)] [] σ) (l1 : Int32) (l2 : Int32) (l3 : Int32) (σ : ST) : AW wlM yX5_speed cX5_speed 4 (some .int) rmX5_speed emI (fX5_speed_B20 k20 l1 l2 l3 σ) 20 [some (.inr (some 0)), some (.inl l1), some (.inl l2), some (.inl l3)] [] σ := by
  unfold fX5_speed_B20
  refine aw_iload_n (pc := 20) dX5_speed_20 rfl rfl ?_
  refine aw_aload_n (pc := 21) dX5_speed_21 rfl rfl ?_
  refine aw_get (pc := 22) (v := .inr (some 13)) foX5_47 (atM0 _) rfl dX5_speed_22 ?_
  refine aw_iload_n (pc := 25) dX5_speed_25 rfl rfl ?_
  refine aw_iald' (pc := 26) (atM13 _) dX5_speed_26 ?_
  refine aw_icmp_ge (pc := 27) (tgt := 47) dX5_speed_27 (by decide) (fun _ => ?_) (fun _ => ?_)
  · exact aw_wk (wk_same (wk_same (wk_same (wk_same wk_nil)))) (xX5_speed_J47 l1 l2 l3 σ)
  refine aw_aload_n (pc := 30) dX5_speed_30 rfl rfl ?_
  refine aw_get (pc := 31) (v := .inr (some 22)) foX5_81 (atM0 _) rfl dX5_speed_31 ?_
  refine aw_iload_n (pc := 34) dX5_speed_34 rfl rfl ?_
  refine aw_iald' (pc := 35) (atM22 _) dX5_speed_35 ?_
  refine aw_bipush (pc := 36) (v := (-5)) dX5_speed_36 (by decide) ?_
  refine aw_icmp_ne (pc := 38) (tgt := 47) dX5_speed_38 (by decide) (fun _ => ?_) (fun _ => ?_)
  · refine aw_iincB (pc := 41) (v := 1) (Lf := fun v6 => [some (.inr (some 0)), some (.inl l1), some (.inl l2), some (.inl v6)]) dX5_speed_41 rfl (by decide) (by decide) (fun _ => rfl) (fun v6 => ?_)
    refine aw_goto (pc := 44) (tgt := 20) dX5_speed_44 (by decide) ?_
    exact aw_wk (wk_same (wk_same (wk_same (wk_same wk_nil)))) (hk20 l1 l2 v6 σ)
  exact aw_wk (wk_same (wk_same (wk_same (wk_same wk_nil)))) (xX5_speed_J47 l1 l2 l3 σ)
noncomputable def fX5_speed_L20 (n : Nat) (l1 : Int32) (l2 : Int32) (l3 : Int32) (σ : ST) : Option (Int32 × ST) := loopN (α := Int32 × Int32 × Int32 × ST) (fun k a => fX5_speed_B20 (fun l1 l2 l3 σ => k (l1, l2, l3, σ)) a.1 a.2.1 a.2.2.1 a.2.2.2) n (l1, l2, l3, σ)
theorem xX5_speed_L20 (n : Nat) (l1 : Int32) (l2 : Int32) (l3 : Int32) (σ : ST) : AW wlM yX5_speed cX5_speed 4 (some .int) rmX5_speed emI (fX5_speed_L20 n l1 l2 l3 σ) 20 [some (.inr (some 0)), some (.inl l1), some (.inl l2), some (.inl l3)] [] σ :=
  aw_loop (α := Int32 × Int32 × Int32 × ST) (Lf := fun a => [some (.inr (some 0)), some (.inl (a.1)), some (.inl (a.2.1)), some (.inl (a.2.2.1))]) (sf := fun a => a.2.2.2) (fun k hk a => by
    obtain ⟨l1, l2, l3, σ⟩ := a
    exact xX5_speed_B20 (fun l1 l2 l3 σ => k (l1, l2, l3, σ)) (fun l1 l2 l3 σ => hk (l1, l2, l3, σ)) l1 l2 l3 σ) n (l1, l2, l3, σ)
noncomputable def fX5_speed (a1 : Int32) (a2 : Int32) (σ : ST) : Option (Int32 × ST) :=
  cb (fX5_isSight a1 a2 σ) (fun r1 σ2 => if r1 = 0 then (some ((-1), σ2)) else (cb (fX5_lay a1 σ2) (fun r3 σ4 => bindv (a2 + 1) (fun v5 => fX5_speed_L20 FU a1 a2 v5 σ4))))
set_option maxRecDepth 10000 in
theorem xX5_speed (a1 : Int32) (a2 : Int32) (σ : ST) : MS wlM yX5_speed cX5_speed 4 (some .int) rmX5_speed emI [.inr (some 0), .inl a1, .inl a2] σ (fX5_speed a1 a2 σ) := by
  refine MS.of (by decide +kernel) (Nat.le_of_ble_eq_true rfl) ?_
  show AW wlM yX5_speed cX5_speed 4 (some .int) rmX5_speed emI (fX5_speed a1 a2 σ) 0 [some (.inr (some 0)), some (.inl a1), some (.inl a2), none] [] σ
  unfold fX5_speed
  refine aw_aload_n (pc := 0) dX5_speed_0 rfl rfl ?_
  refine aw_iload_n (pc := 1) dX5_speed_1 rfl rfl ?_
  refine aw_iload_n (pc := 2) dX5_speed_2 rfl rfl ?_
  refine aw_cVI (pc := 3) (st := []) (xX5_isSight a1 a2 σ) (atM0 _) rfl ckX5_154 ⟨rfl, rfl, by decide, by decide⟩ (Nat.le_of_ble_eq_true rfl) dX5_speed_3 rfl (fun r1 σ2 => ?_)
  refine aw_if_ne (pc := 6) (tgt := 11) dX5_speed_6 (by decide) (fun _ => ?_) (fun _ => ?_)
  · refine aw_iconst (pc := 9) (v := (-1)) dX5_speed_9 (by decide) ?_
    exact aw_ret_i (pc := 10) rfl rfl rfl dX5_speed_10
  refine aw_aload_n (pc := 11) dX5_speed_11 rfl rfl ?_
  refine aw_iload_n (pc := 12) dX5_speed_12 rfl rfl ?_
  refine aw_cVV (pc := 13) (st := []) (xX5_lay a1 σ2) (atM0 _) rfl ckX5_175 ⟨rfl, rfl, by decide, by decide⟩ (Nat.le_of_ble_eq_true rfl) dX5_speed_13 rfl (fun r3 σ4 => ?_)
  refine aw_iload_n (pc := 16) dX5_speed_16 rfl rfl ?_
  refine aw_iconst (pc := 17) (v := 1) dX5_speed_17 (by decide) ?_
  refine aw_iadd (pc := 18) dX5_speed_18 ?_
  refine aw_stnB (pc := 19) (Lf := fun v5 => [some (.inr (some 0)), some (.inl a1), some (.inl a2), some (.inl v5)]) dX5_speed_19 rfl (by decide) (fun _ => rfl) (fun v5 => ?_)
  exact aw_wk (wk_same (wk_same (wk_same (wk_same wk_nil)))) (xX5_speed_L20 FU a1 a2 v5 σ4)
abbrev rmX5_against : Room := { frames := 5, cells := 0, slots := 0, locals := 114 }
noncomputable def fX5_against_J90 (k27 : Int32 → Int32 → Int32 → ST → Option (Int32 × ST)) (l1 : Int32) (l3 : Int32) (s0 : Int32) (s1 : Int32) (σ : ST) : Option (Int32 × ST) :=
  bindv (s1 + s0) (fun v14 => bindv (l3 + 1) (fun v15 => k27 l1 v14 v15 σ))
set_option maxRecDepth 10000 in
theorem xX5_against_J90 (k27 : Int32 → Int32 → Int32 → ST → Option (Int32 × ST)) (hk27 : ∀ (l1 : Int32) (l2 : Int32) (l3 : Int32) (σ : ST), AW wlM yX5_against cX5_against 5 (some .int) rmX5_against emI (k27 l1 l2 l3 σ) 27 [some (.inr (some 0)), some (.inl l1), some (.inl l2), some (.inl l3), none] [] σ) (l1 : Int32) (l3 : Int32) (s0 : Int32) (s1 : Int32) (σ : ST) : AW wlM yX5_against cX5_against 5 (some .int) rmX5_against emI (fX5_against_J90 k27 l1 l3 s0 s1 σ) 90 [some (.inr (some 0)), some (.inl l1), none, some (.inl l3), none] [.inl s0, .inl s1] σ := by
  unfold fX5_against_J90
  refine aw_iadd (pc := 90) dX5_against_90 ?_
  refine aw_stnB (pc := 91) (Lf := fun v14 => [some (.inr (some 0)), some (.inl l1), some (.inl v14), some (.inl l3), none]) dX5_against_91 rfl (by decide) (fun _ => rfl) (fun v14 => ?_)
  refine aw_iincB (pc := 92) (v := 1) (Lf := fun v15 => [some (.inr (some 0)), some (.inl l1), some (.inl v14), some (.inl v15), none]) dX5_against_92 rfl (by decide) (by decide) (fun _ => rfl) (fun v15 => ?_)
  refine aw_goto (pc := 95) (tgt := 27) dX5_against_95 (by decide) ?_
  exact aw_wk (wk_same (wk_same (wk_same (wk_same (wk_none wk_nil))))) (hk27 l1 v14 v15 σ)
noncomputable def fX5_against_B27 (k27 : Int32 → Int32 → Int32 → ST → Option (Int32 × ST)) (l1 : Int32) (l2 : Int32) (l3 : Int32) (σ : ST) : Option (Int32 × ST) :=
  if (σ.1 0 15) ≤ l3 then (if ib l1 30 = true then bindv (stI σ 6 l1.toNatClampNeg 1) (fun σ3 => bindv (stI σ3 0 20 0) (fun σ4 => some (l2, σ4))) else none) else (if ib l1 30 = true then bindv (stI σ 6 l1.toNatClampNeg 1) (fun σ5 => bindv (stI σ5 0 20 0) (fun σ6 => cb (fX5_lay l3 σ6) (fun r7 σ8 => bindv (σ8.1 0 30) (fun v9 => if ib l1 30 = true then bindv (stI σ8 6 l1.toNatClampNeg 0) (fun σ10 => bindv (stI σ10 0 20 0) (fun σ11 => cb (fX5_lay l3 σ11) (fun r12 σ13 => if v9 ≤ (σ13.1 0 30) then (fX5_against_J90 k27 l1 l3 0 l2 σ13) else (fX5_against_J90 k27 l1 l3 1 l2 σ13)))) else none)))) else none)
set_option maxRecDepth 10000 in
theorem xX5_against_B27 (k27 : Int32 → Int32 → Int32 → ST → Option (Int32 × ST)) (hk27 : ∀ (l1 : Int32) (l2 : Int32) (l3 : Int32) (σ : ST), AW wlM yX5_against cX5_against 5 (some .int) rmX5_against emI (k27 l1 l2 l3 σ) 27 [some (.inr (some 0)), some (.inl l1), some (.inl l2), some (.inl l3), none] [] σ) (l1 : Int32) (l2 : Int32) (l3 : Int32) (σ : ST) : AW wlM yX5_against cX5_against 5 (some .int) rmX5_against emI (fX5_against_B27 k27 l1 l2 l3 σ) 27 [some (.inr (some 0)), some (.inl l1), some (.inl l2), some (.inl l3), none] [] σ := by
  unfold fX5_against_B27
  refine aw_iload_n (pc := 27) dX5_against_27 rfl rfl ?_
  refine aw_aload_n (pc := 28) dX5_against_28 rfl rfl ?_
  refine aw_get (pc := 29) (v := .inl (σ.1 0 15)) foX5_141 (atM0 _) rfl dX5_against_29 ?_
  refine aw_icmp_ge (pc := 32) (tgt := 98) dX5_against_32 (by decide) (fun _ => ?_) (fun _ => ?_)
  · refine aw_aload_n (pc := 98) dX5_against_98 rfl rfl ?_
    refine aw_get (pc := 99) (v := .inr (some 6)) foX5_25 (atM0 _) rfl dX5_against_99 ?_
    refine aw_iload_n (pc := 102) dX5_against_102 rfl rfl ?_
    refine aw_iconst (pc := 103) (v := 1) dX5_against_103 (by decide) ?_
    refine aw_iastB (pc := 104) (atM6 _) (stM6 _ _ _) dX5_against_104 (fun σ3 => ?_)
    refine aw_aload_n (pc := 105) dX5_against_105 rfl rfl ?_
    refine aw_iconst (pc := 106) (v := 0) dX5_against_106 (by decide) ?_
    refine aw_putZ (pc := 107) fwX5_101 (atM0 _) (Nat.le_of_ble_eq_true rfl) (by decide) (stM0_20 _ _) dX5_against_107 (fun σ4 => ?_)
    refine aw_iload_n (pc := 110) dX5_against_110 rfl rfl ?_
    exact aw_ret_i (pc := 111) rfl rfl rfl dX5_against_111
  refine aw_aload_n (pc := 35) dX5_against_35 rfl rfl ?_
  refine aw_get (pc := 36) (v := .inr (some 6)) foX5_25 (atM0 _) rfl dX5_against_36 ?_
  refine aw_iload_n (pc := 39) dX5_against_39 rfl rfl ?_
  refine aw_iconst (pc := 40) (v := 1) dX5_against_40 (by decide) ?_
  refine aw_iastB (pc := 41) (atM6 _) (stM6 _ _ _) dX5_against_41 (fun σ5 => ?_)
  refine aw_aload_n (pc := 42) dX5_against_42 rfl rfl ?_
  refine aw_iconst (pc := 43) (v := 0) dX5_against_43 (by decide) ?_
  refine aw_putZ (pc := 44) fwX5_101 (atM0 _) (Nat.le_of_ble_eq_true rfl) (by decide) (stM0_20 _ _) dX5_against_44 (fun σ6 => ?_)
  refine aw_aload_n (pc := 47) dX5_against_47 rfl rfl ?_
  refine aw_iload_n (pc := 48) dX5_against_48 rfl rfl ?_
  refine aw_cVV (pc := 49) (st := []) (xX5_lay l3 σ6) (atM0 _) rfl ckX5_175 ⟨rfl, rfl, by decide, by decide⟩ (Nat.le_of_ble_eq_true rfl) dX5_against_49 rfl (fun r7 σ8 => ?_)
  refine aw_aload_n (pc := 52) dX5_against_52 rfl rfl ?_
  refine aw_get (pc := 53) (v := .inl (σ8.1 0 30)) foX5_169 (atM0 _) rfl dX5_against_53 ?_
  refine aw_stB (pc := 56) (Lf := fun v9 => [some (.inr (some 0)), some (.inl l1), some (.inl l2), some (.inl l3), some (.inl v9)]) dX5_against_56 (by decide) (fun _ => rfl) (fun v9 => ?_)
  refine aw_aload_n (pc := 58) dX5_against_58 rfl rfl ?_
  refine aw_get (pc := 59) (v := .inr (some 6)) foX5_25 (atM0 _) rfl dX5_against_59 ?_
  refine aw_iload_n (pc := 62) dX5_against_62 rfl rfl ?_
  refine aw_iconst (pc := 63) (v := 0) dX5_against_63 (by decide) ?_
  refine aw_iastB (pc := 64) (atM6 _) (stM6 _ _ _) dX5_against_64 (fun σ10 => ?_)
  refine aw_aload_n (pc := 65) dX5_against_65 rfl rfl ?_
  refine aw_iconst (pc := 66) (v := 0) dX5_against_66 (by decide) ?_
  refine aw_putZ (pc := 67) fwX5_101 (atM0 _) (Nat.le_of_ble_eq_true rfl) (by decide) (stM0_20 _ _) dX5_against_67 (fun σ11 => ?_)
  refine aw_aload_n (pc := 70) dX5_against_70 rfl rfl ?_
  refine aw_iload_n (pc := 71) dX5_against_71 rfl rfl ?_
  refine aw_cVV (pc := 72) (st := []) (xX5_lay l3 σ11) (atM0 _) rfl ckX5_175 ⟨rfl, rfl, by decide, by decide⟩ (Nat.le_of_ble_eq_true rfl) dX5_against_72 rfl (fun r12 σ13 => ?_)
  refine aw_iload_n (pc := 75) dX5_against_75 rfl rfl ?_
  refine aw_aload_n (pc := 76) dX5_against_76 rfl rfl ?_
  refine aw_get (pc := 77) (v := .inl (σ13.1 0 30)) foX5_169 (atM0 _) rfl dX5_against_77 ?_
  refine aw_iload (pc := 80) dX5_against_80 rfl ?_
  refine aw_icmp_ge (pc := 82) (tgt := 89) dX5_against_82 (by decide) (fun _ => ?_) (fun _ => ?_)
  · refine aw_iconst (pc := 89) (v := 0) dX5_against_89 (by decide) ?_
    exact aw_wk (wk_same (wk_same (wk_none (wk_same (wk_none wk_nil))))) (xX5_against_J90 k27 hk27 l1 l3 0 l2 σ13)
  refine aw_iconst (pc := 85) (v := 1) dX5_against_85 (by decide) ?_
  refine aw_goto (pc := 86) (tgt := 90) dX5_against_86 (by decide) ?_
  exact aw_wk (wk_same (wk_same (wk_none (wk_same (wk_none wk_nil))))) (xX5_against_J90 k27 hk27 l1 l3 1 l2 σ13)
noncomputable def fX5_against_L27 (n : Nat) (l1 : Int32) (l2 : Int32) (l3 : Int32) (σ : ST) : Option (Int32 × ST) := loopN (α := Int32 × Int32 × Int32 × ST) (fun k a => fX5_against_B27 (fun l1 l2 l3 σ => k (l1, l2, l3, σ)) a.1 a.2.1 a.2.2.1 a.2.2.2) n (l1, l2, l3, σ)
theorem xX5_against_L27 (n : Nat) (l1 : Int32) (l2 : Int32) (l3 : Int32) (σ : ST) : AW wlM yX5_against cX5_against 5 (some .int) rmX5_against emI (fX5_against_L27 n l1 l2 l3 σ) 27 [some (.inr (some 0)), some (.inl l1), some (.inl l2), some (.inl l3), none] [] σ :=
  aw_loop (α := Int32 × Int32 × Int32 × ST) (Lf := fun a => [some (.inr (some 0)), some (.inl (a.1)), some (.inl (a.2.1)), some (.inl (a.2.2.1)), none]) (sf := fun a => a.2.2.2) (fun k hk a => by
    obtain ⟨l1, l2, l3, σ⟩ := a
    exact xX5_against_B27 (fun l1 l2 l3 σ => k (l1, l2, l3, σ)) (fun l1 l2 l3 σ => hk (l1, l2, l3, σ)) l1 l2 l3 σ) n (l1, l2, l3, σ)
noncomputable def fX5_against (a1 : Int32) (σ : ST) : Option (Int32 × ST) :=
  cb (fX5_isRoad a1 σ) (fun r1 σ2 => if r1 = 0 then (some ((-1), σ2)) else (if ib a1 30 = true then if (σ2.1 6 a1.toNatClampNeg) = 1 then (fX5_against_L27 FU a1 0 0 σ2) else (some ((-3), σ2)) else none))
set_option maxRecDepth 10000 in
theorem xX5_against (a1 : Int32) (σ : ST) : MS wlM yX5_against cX5_against 5 (some .int) rmX5_against emI [.inr (some 0), .inl a1] σ (fX5_against a1 σ) := by
  refine MS.of (by decide +kernel) (Nat.le_of_ble_eq_true rfl) ?_
  show AW wlM yX5_against cX5_against 5 (some .int) rmX5_against emI (fX5_against a1 σ) 0 [some (.inr (some 0)), some (.inl a1), none, none, none] [] σ
  unfold fX5_against
  refine aw_aload_n (pc := 0) dX5_against_0 rfl rfl ?_
  refine aw_iload_n (pc := 1) dX5_against_1 rfl rfl ?_
  refine aw_cVI (pc := 2) (st := []) (xX5_isRoad a1 σ) (atM0 _) rfl ckX5_105 ⟨rfl, rfl, by decide, by decide⟩ (Nat.le_of_ble_eq_true rfl) dX5_against_2 rfl (fun r1 σ2 => ?_)
  refine aw_if_ne (pc := 5) (tgt := 10) dX5_against_5 (by decide) (fun _ => ?_) (fun _ => ?_)
  · refine aw_iconst (pc := 8) (v := (-1)) dX5_against_8 (by decide) ?_
    exact aw_ret_i (pc := 9) rfl rfl rfl dX5_against_9
  refine aw_aload_n (pc := 10) dX5_against_10 rfl rfl ?_
  refine aw_get (pc := 11) (v := .inr (some 6)) foX5_25 (atM0 _) rfl dX5_against_11 ?_
  refine aw_iload_n (pc := 14) dX5_against_14 rfl rfl ?_
  refine aw_iald' (pc := 15) (atM6 _) dX5_against_15 ?_
  refine aw_iconst (pc := 16) (v := 1) dX5_against_16 (by decide) ?_
  refine aw_icmp_eq (pc := 17) (tgt := 23) dX5_against_17 (by decide) (fun _ => ?_) (fun _ => ?_)
  · refine aw_iconst (pc := 23) (v := 0) dX5_against_23 (by decide) ?_
    refine aw_stn (pc := 24) (L' := [some (.inr (some 0)), some (.inl a1), some (.inl 0), none, none]) dX5_against_24 rfl (by decide) rfl ?_
    refine aw_iconst (pc := 25) (v := 0) dX5_against_25 (by decide) ?_
    refine aw_stn (pc := 26) (L' := [some (.inr (some 0)), some (.inl a1), some (.inl 0), some (.inl 0), none]) dX5_against_26 rfl (by decide) rfl ?_
    exact aw_wk (wk_same (wk_same (wk_same (wk_same (wk_none wk_nil))))) (xX5_against_L27 FU a1 0 0 σ2)
  refine aw_bipush (pc := 20) (v := (-3)) dX5_against_20 (by decide) ?_
  exact aw_ret_i (pc := 22) rfl rfl rfl dX5_against_22
abbrev rmX5_count : Room := { frames := 0, cells := 0, slots := 0, locals := 0 }
noncomputable def fX5_count_B4 (k4 : Int32 → Int32 → Int32 → ST → Option (Int32 × ST)) (l1 : Int32) (l2 : Int32) (l3 : Int32) (σ : ST) : Option (Int32 × ST) :=
  if (σ.1 0 15) ≤ l3 then (if l1 = 0 then (some ((σ.1 0 2), σ)) else (if l1 = 1 then (some ((σ.1 0 8), σ)) else (if l1 = 2 then (some ((σ.1 0 15), σ)) else (if l1 = 3 then (some (l2, σ)) else (if l1 = 4 then (some ((σ.1 0 19), σ)) else (some ((-1), σ))))))) else (if ib l3 6 = true then bindv (l2 + (σ.1 13 l3.toNatClampNeg)) (fun v1 => bindv (l3 + 1) (fun v2 => k4 l1 v1 v2 σ)) else none)
set_option maxRecDepth 10000 in
theorem xX5_count_B4 (k4 : Int32 → Int32 → Int32 → ST → Option (Int32 × ST)) (hk4 : ∀ (l1 : Int32) (l2 : Int32) (l3 : Int32) (σ : ST), AW wlM yX5_count cX5_count 4 (some .int) rmX5_count emI (k4 l1 l2 l3 σ) 4 [some (.inr (some 0)), some (.inl l1), some (.inl l2), some (.inl l3)] [] σ) (l1 : Int32) (l2 : Int32) (l3 : Int32) (σ : ST) : AW wlM yX5_count cX5_count 4 (some .int) rmX5_count emI (fX5_count_B4 k4 l1 l2 l3 σ) 4 [some (.inr (some 0)), some (.inl l1), some (.inl l2), some (.inl l3)] [] σ := by
  unfold fX5_count_B4
  refine aw_iload_n (pc := 4) dX5_count_4 rfl rfl ?_
  refine aw_aload_n (pc := 5) dX5_count_5 rfl rfl ?_
  refine aw_get (pc := 6) (v := .inl (σ.1 0 15)) foX5_141 (atM0 _) rfl dX5_count_6 ?_
  refine aw_icmp_ge (pc := 9) (tgt := 27) dX5_count_9 (by decide) (fun _ => ?_) (fun _ => ?_)
  · refine aw_iload_n (pc := 27) dX5_count_27 rfl rfl ?_
    refine aw_switch5 (pc := 28) (t0 := 64) (t1 := 69) (t2 := 74) (t3 := 79) (t4 := 81) (td := 86) dX5_count_28 (by decide) (by decide) (by decide) (by decide) (by decide) (by decide) ?_ ?_ ?_ ?_ ?_ ?_
    · refine aw_aload_n (pc := 64) dX5_count_64 rfl rfl ?_
      refine aw_get (pc := 65) (v := .inl (σ.1 0 2)) foX5_91 (atM0 _) rfl dX5_count_65 ?_
      exact aw_ret_i (pc := 68) rfl rfl rfl dX5_count_68
    · refine aw_aload_n (pc := 69) dX5_count_69 rfl rfl ?_
      refine aw_get (pc := 70) (v := .inl (σ.1 0 8)) foX5_94 (atM0 _) rfl dX5_count_70 ?_
      exact aw_ret_i (pc := 73) rfl rfl rfl dX5_count_73
    · refine aw_aload_n (pc := 74) dX5_count_74 rfl rfl ?_
      refine aw_get (pc := 75) (v := .inl (σ.1 0 15)) foX5_141 (atM0 _) rfl dX5_count_75 ?_
      exact aw_ret_i (pc := 78) rfl rfl rfl dX5_count_78
    · refine aw_iload_n (pc := 79) dX5_count_79 rfl rfl ?_
      exact aw_ret_i (pc := 80) rfl rfl rfl dX5_count_80
    · refine aw_aload_n (pc := 81) dX5_count_81 rfl rfl ?_
      refine aw_get (pc := 82) (v := .inl (σ.1 0 19)) foX5_178 (atM0 _) rfl dX5_count_82 ?_
      exact aw_ret_i (pc := 85) rfl rfl rfl dX5_count_85
    refine aw_iconst (pc := 86) (v := (-1)) dX5_count_86 (by decide) ?_
    exact aw_ret_i (pc := 87) rfl rfl rfl dX5_count_87
  refine aw_iload_n (pc := 12) dX5_count_12 rfl rfl ?_
  refine aw_aload_n (pc := 13) dX5_count_13 rfl rfl ?_
  refine aw_get (pc := 14) (v := .inr (some 13)) foX5_47 (atM0 _) rfl dX5_count_14 ?_
  refine aw_iload_n (pc := 17) dX5_count_17 rfl rfl ?_
  refine aw_iald' (pc := 18) (atM13 _) dX5_count_18 ?_
  refine aw_iadd (pc := 19) dX5_count_19 ?_
  refine aw_stnB (pc := 20) (Lf := fun v1 => [some (.inr (some 0)), some (.inl l1), some (.inl v1), some (.inl l3)]) dX5_count_20 rfl (by decide) (fun _ => rfl) (fun v1 => ?_)
  refine aw_iincB (pc := 21) (v := 1) (Lf := fun v2 => [some (.inr (some 0)), some (.inl l1), some (.inl v1), some (.inl v2)]) dX5_count_21 rfl (by decide) (by decide) (fun _ => rfl) (fun v2 => ?_)
  refine aw_goto (pc := 24) (tgt := 4) dX5_count_24 (by decide) ?_
  exact aw_wk (wk_same (wk_same (wk_same (wk_same wk_nil)))) (hk4 l1 v1 v2 σ)
noncomputable def fX5_count_L4 (n : Nat) (l1 : Int32) (l2 : Int32) (l3 : Int32) (σ : ST) : Option (Int32 × ST) := loopN (α := Int32 × Int32 × Int32 × ST) (fun k a => fX5_count_B4 (fun l1 l2 l3 σ => k (l1, l2, l3, σ)) a.1 a.2.1 a.2.2.1 a.2.2.2) n (l1, l2, l3, σ)
theorem xX5_count_L4 (n : Nat) (l1 : Int32) (l2 : Int32) (l3 : Int32) (σ : ST) : AW wlM yX5_count cX5_count 4 (some .int) rmX5_count emI (fX5_count_L4 n l1 l2 l3 σ) 4 [some (.inr (some 0)), some (.inl l1), some (.inl l2), some (.inl l3)] [] σ :=
  aw_loop (α := Int32 × Int32 × Int32 × ST) (Lf := fun a => [some (.inr (some 0)), some (.inl (a.1)), some (.inl (a.2.1)), some (.inl (a.2.2.1))]) (sf := fun a => a.2.2.2) (fun k hk a => by
    obtain ⟨l1, l2, l3, σ⟩ := a
    exact xX5_count_B4 (fun l1 l2 l3 σ => k (l1, l2, l3, σ)) (fun l1 l2 l3 σ => hk (l1, l2, l3, σ)) l1 l2 l3 σ) n (l1, l2, l3, σ)
noncomputable def fX5_count (a1 : Int32) (σ : ST) : Option (Int32 × ST) :=
  fX5_count_L4 FU a1 0 0 σ
set_option maxRecDepth 10000 in
theorem xX5_count (a1 : Int32) (σ : ST) : MS wlM yX5_count cX5_count 4 (some .int) rmX5_count emI [.inr (some 0), .inl a1] σ (fX5_count a1 σ) := by
  refine MS.of (by decide +kernel) (Nat.le_of_ble_eq_true rfl) ?_
  show AW wlM yX5_count cX5_count 4 (some .int) rmX5_count emI (fX5_count a1 σ) 0 [some (.inr (some 0)), some (.inl a1), none, none] [] σ
  unfold fX5_count
  refine aw_iconst (pc := 0) (v := 0) dX5_count_0 (by decide) ?_
  refine aw_stn (pc := 1) (L' := [some (.inr (some 0)), some (.inl a1), some (.inl 0), none]) dX5_count_1 rfl (by decide) rfl ?_
  refine aw_iconst (pc := 2) (v := 0) dX5_count_2 (by decide) ?_
  refine aw_stn (pc := 3) (L' := [some (.inr (some 0)), some (.inl a1), some (.inl 0), some (.inl 0)]) dX5_count_3 rfl (by decide) rfl ?_
  exact aw_wk (wk_same (wk_same (wk_same (wk_same wk_nil)))) (xX5_count_L4 FU a1 0 0 σ)
