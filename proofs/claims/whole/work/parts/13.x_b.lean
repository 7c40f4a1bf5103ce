-- printed by gen2.py: methods as functions over stores, tied to their bytecode
abbrev rmX1_forget : Room := { frames := 0, cells := 0, slots := 0, locals := 0 }
noncomputable def fX1_forget (σ : ST) : Option (Unit × ST) :=
  bindv (stR σ 3 12 none) (fun σ1 => some ((), σ1))
set_option maxRecDepth 10000 in
theorem xX1_forget (σ : ST) : MS wlX yX1_forget cX1_forget 1 none rmX1_forget emV [.inr (some 3)] σ (fX1_forget σ) := by
  refine MS.of (by decide +kernel) (Nat.le_of_ble_eq_true rfl) ?_
  show AW wlX yX1_forget cX1_forget 1 none rmX1_forget emV (fX1_forget σ) 0 [some (.inr (some 3))] [] σ
  unfold fX1_forget
  refine aw_aload_n (pc := 0) dX1_forget_0 rfl rfl ?_
  refine aw_null (pc := 1) dX1_forget_1 ?_
  refine aw_putQ (pc := 2) fwX1_51 (atX3 _) (Nat.le_of_ble_eq_true rfl) (stX3_12 _ _) dX1_forget_2 (fun σ1 => ?_)
  exact aw_ret_v (pc := 5) rfl rfl dX1_forget_5
abbrev rmX1_worstSlot : Room := { frames := 0, cells := 0, slots := 0, locals := 0 }
noncomputable def fX1_worstSlot_J29 (k4 : Int32 → Int32 → Int32 → ST → Option (Int32 × ST)) (l1 : Int32) (l2 : Int32) (l3 : Int32) (σ : ST) : Option (Int32 × ST) :=
  bindv (l3 + 1) (fun v1 => k4 l1 l2 v1 σ)
set_option maxRecDepth 10000 in
theorem xX1_worstSlot_J29 (k4 : Int32 → Int32 → Int32 → ST → Option (Int32 × ST)) (hk4 : ∀ (l1 : Int32) (l2 : Int32) (l3 : Int32) (σ : ST), AW wlX yX1_worstSlot cX1_worstSlot 4 (some .int) rmX1_worstSlot emI (k4 l1 l2 l3 σ) 4 [some (.inr (some 3)), some (.inl l1), some (.inl l2), some (.inl l3)] [] σ) (l1 : Int32) (l2 : Int32) (l3 : Int32) (σ : ST) : AW wlX yX1_worstSlot cX1_worstSlot 4 (some .int) rmX1_worstSlot emI (fX1_worstSlot_J29 k4 l1 l2 l3 σ) 29 [some (.inr (some 3)), some (.inl l1), some (.inl l2), some (.inl l3)] [] σ := by
  unfold fX1_worstSlot_J29
  refine aw_iincB (pc := 29) (v := 1) (Lf := fun v1 => [some (.inr (some 3)), some (.inl l1), some (.inl l2), some (.inl v1)]) dX1_worstSlot_29 rfl (by decide) (by decide) (fun _ => rfl) (fun v1 => ?_)
  refine aw_goto (pc := 32) (tgt := 4) dX1_worstSlot_32 (by decide) ?_
  exact aw_wk (wk_same (wk_same (wk_same (wk_same wk_nil)))) (hk4 l1 l2 v1 σ)
noncomputable def fX1_worstSlot_B4 (k4 : Int32 → Int32 → Int32 → ST → Option (Int32 × ST)) (l1 : Int32) (l2 : Int32) (l3 : Int32) (σ : ST) : Option (Int32 × ST) :=
  if (l1 + 10) ≤ l3 then (some (l2, σ)) else (if ib l3 200 = true then if ib l2 200 = true then if (σ.1 21 l3.toNatClampNeg) < (σ.1 21 l2.toNatClampNeg) then (fX1_worstSlot_J29 k4 l1 l2 l3 σ) else (fX1_worstSlot_J29 k4 l1 l3 l3 σ) else none else none)
set_option maxRecDepth 10000 in
theorem xX1_worstSlot_B4 (k4 : Int32 → Int32 → Int32 → ST → Option (Int32 × ST)) (hk4 : ∀ (l1 : Int32) (l2 : Int32) (l3 : Int32) (σ : ST), AW wlX yX1_worstSlot cX1_worstSlot 4 (some .int) rmX1_worstSlot emI (k4 l1 l2 l3 σ) 4 [some (.inr (some 3)), some (.inl l1), some (.inl l2), some (.inl l3)] [] σ) (l1 : Int32) (l2 : Int32) (l3 : Int32) (σ : ST) : AW wlX yX1_worstSlot cX1_worstSlot 4 (some .int) rmX1_worstSlot emI (fX1_worstSlot_B4 k4 l1 l2 l3 σ) 4 [some (.inr (some 3)), some (.inl l1), some (.inl l2), some (.inl l3)] [] σ := by
  unfold fX1_worstSlot_B4
  refine aw_iload_n (pc := 4) dX1_worstSlot_4 rfl rfl ?_
  refine aw_iload_n (pc := 5) dX1_worstSlot_5 rfl rfl ?_
  refine aw_bipush (pc := 6) (v := 10) dX1_worstSlot_6 (by decide) ?_
  refine aw_iadd (pc := 8) dX1_worstSlot_8 ?_
  refine aw_icmp_ge (pc := 9) (tgt := 35) dX1_worstSlot_9 (by decide) (fun _ => ?_) (fun _ => ?_)
  · refine aw_iload_n (pc := 35) dX1_worstSlot_35 rfl rfl ?_
    exact aw_ret_i (pc := 36) rfl rfl rfl dX1_worstSlot_36
  refine aw_aload_n (pc := 12) dX1_worstSlot_12 rfl rfl ?_
  refine aw_get (pc := 13) (v := .inr (some 21)) foX1_28 (atX3 _) rfl dX1_worstSlot_13 ?_
  refine aw_iload_n (pc := 16) dX1_worstSlot_16 rfl rfl ?_
  refine aw_iald' (pc := 17) (atX21 _) dX1_worstSlot_17 ?_
  refine aw_aload_n (pc := 18) dX1_worstSlot_18 rfl rfl ?_
  refine aw_get (pc := 19) (v := .inr (some 21)) foX1_28 (atX3 _) rfl dX1_worstSlot_19 ?_
  refine aw_iload_n (pc := 22) dX1_worstSlot_22 rfl rfl ?_
  refine aw_iald' (pc := 23) (atX21 _) dX1_worstSlot_23 ?_
  refine aw_icmp_lt (pc := 24) (tgt := 29) dX1_worstSlot_24 (by decide) (fun _ => ?_) (fun _ => ?_)
  · exact aw_wk (wk_same (wk_same (wk_same (wk_same wk_nil)))) (xX1_worstSlot_J29 k4 hk4 l1 l2 l3 σ)
  refine aw_iload_n (pc := 27) dX1_worstSlot_27 rfl rfl ?_
  refine aw_stn (pc := 28) (L' := [some (.inr (some 3)), some (.inl l1), some (.inl l3), some (.inl l3)]) dX1_worstSlot_28 rfl (by decide) rfl ?_
  exact aw_wk (wk_same (wk_same (wk_same (wk_same wk_nil)))) (xX1_worstSlot_J29 k4 hk4 l1 l3 l3 σ)
noncomputable def fX1_worstSlot_L4 (n : Nat) (l1 : Int32) (l2 : Int32) (l3 : Int32) (σ : ST) : Option (Int32 × ST) := loopN (α := Int32 × Int32 × Int32 × ST) (fun k a => fX1_worstSlot_B4 (fun l1 l2 l3 σ => k (l1, l2, l3, σ)) a.1 a.2.1 a.2.2.1 a.2.2.2) n (l1, l2, l3, σ)
theorem xX1_worstSlot_L4 (n : Nat) (l1 : Int32) (l2 : Int32) (l3 : Int32) (σ : ST) : AW wlX yX1_worstSlot cX1_worstSlot 4 (some .int) rmX1_worstSlot emI (fX1_worstSlot_L4 n l1 l2 l3 σ) 4 [some (.inr (some 3)), some (.inl l1), some (.inl l2), some (.inl l3)] [] σ :=
  aw_loop (α := Int32 × Int32 × Int32 × ST) (Lf := fun a => [some (.inr (some 3)), some (.inl (a.1)), some (.inl (a.2.1)), some (.inl (a.2.2.1))]) (sf := fun a => a.2.2.2) (fun k hk a => by
    obtain ⟨l1, l2, l3, σ⟩ := a
    exact xX1_worstSlot_B4 (fun l1 l2 l3 σ => k (l1, l2, l3, σ)) (fun l1 l2 l3 σ => hk (l1, l2, l3, σ)) l1 l2 l3 σ) n (l1, l2, l3, σ)
noncomputable def fX1_worstSlot (a1 : Int32) (σ : ST) : Option (Int32 × ST) :=
  fX1_worstSlot_L4 FU a1 a1 a1 σ
set_option maxRecDepth 10000 in
theorem xX1_worstSlot (a1 : Int32) (σ : ST) : MS wlX yX1_worstSlot cX1_worstSlot 4 (some .int) rmX1_worstSlot emI [.inr (some 3), .inl a1] σ (fX1_worstSlot a1 σ) := by
  refine MS.of (by decide +kernel) (Nat.le_of_ble_eq_true rfl) ?_
  show AW wlX yX1_worstSlot cX1_worstSlot 4 (some .int) rmX1_worstSlot emI (fX1_worstSlot a1 σ) 0 [some (.inr (some 3)), some (.inl a1), none, none] [] σ
  unfold fX1_worstSlot
  refine aw_iload_n (pc := 0) dX1_worstSlot_0 rfl rfl ?_
  refine aw_stn (pc := 1) (L' := [some (.inr (some 3)), some (.inl a1), some (.inl a1), none]) dX1_worstSlot_1 rfl (by decide) rfl ?_
  refine aw_iload_n (pc := 2) dX1_worstSlot_2 rfl rfl ?_
  refine aw_stn (pc := 3) (L' := [some (.inr (some 3)), some (.inl a1), some (.inl a1), some (.inl a1)]) dX1_worstSlot_3 rfl (by decide) rfl ?_
  exact aw_wk (wk_same (wk_same (wk_same (wk_same wk_nil)))) (xX1_worstSlot_L4 FU a1 a1 a1 σ)
abbrev rmX1_addSpot : Room := { frames := 1, cells := 0, slots := 0, locals := 23 }
noncomputable def fX1_addSpot_J99 (l1 : Int32) (l2 : Int32) (l3 : Int32) (l4 : Int32) (σ : ST) : Option (Unit × ST) :=
  if ib l1 20 = true then if ib (l4 + (σ.1 18 l1.toNatClampNeg)) 200 = true then bindv (stI σ 19 (l4 + (σ.1 18 l1.toNatClampNeg)).toNatClampNeg l2) (fun σ2 => if ib l1 20 = true then if ib (l4 + (σ2.1 18 l1.toNatClampNeg)) 200 = true then bindv (stI σ2 21 (l4 + (σ2.1 18 l1.toNatClampNeg)).toNatClampNeg l3) (fun σ3 => if ib l1 20 = true then if ib l1 20 = true then bindv (stI σ3 18 l1.toNatClampNeg ((σ3.1 18 l1.toNatClampNeg) + 1)) (fun σ4 => some ((), σ4)) else none else none) else none else none) else none else none
set_option maxRecDepth 10000 in
theorem xX1_addSpot_J99 (l1 : Int32) (l2 : Int32) (l3 : Int32) (l4 : Int32) (σ : ST) : AW wlX yX1_addSpot cX1_addSpot 7 none rmX1_addSpot emV (fX1_addSpot_J99 l1 l2 l3 l4 σ) 99 [some (.inr (some 3)), some (.inl l1), some (.inl l2), some (.inl l3), some (.inl l4), none, none] [] σ := by
  unfold fX1_addSpot_J99
  refine aw_aload_n (pc := 99) dX1_addSpot_99 rfl rfl ?_
  refine aw_get (pc := 100) (v := .inr (some 19)) foX1_22 (atX3 _) rfl dX1_addSpot_100 ?_
  refine aw_iload (pc := 103) dX1_addSpot_103 rfl ?_
  refine aw_aload_n (pc := 105) dX1_addSpot_105 rfl rfl ?_
  refine aw_get (pc := 106) (v := .inr (some 18)) foX1_18 (atX3 _) rfl dX1_addSpot_106 ?_
  refine aw_iload_n (pc := 109) dX1_addSpot_109 rfl rfl ?_
  refine aw_iald' (pc := 110) (atX18 _) dX1_addSpot_110 ?_
  refine aw_iadd (pc := 111) dX1_addSpot_111 ?_
  refine aw_iload_n (pc := 112) dX1_addSpot_112 rfl rfl ?_
  refine aw_iastB (pc := 113) (atX19 _) (stX19 _ _ _) dX1_addSpot_113 (fun σ2 => ?_)
  refine aw_aload_n (pc := 114) dX1_addSpot_114 rfl rfl ?_
  refine aw_get (pc := 115) (v := .inr (some 21)) foX1_28 (atX3 _) rfl dX1_addSpot_115 ?_
  refine aw_iload (pc := 118) dX1_addSpot_118 rfl ?_
  refine aw_aload_n (pc := 120) dX1_addSpot_120 rfl rfl ?_
  refine aw_get (pc := 121) (v := .inr (some 18)) foX1_18 (atX3 _) rfl dX1_addSpot_121 ?_
  refine aw_iload_n (pc := 124) dX1_addSpot_124 rfl rfl ?_
  refine aw_iald' (pc := 125) (atX18 _) dX1_addSpot_125 ?_
  refine aw_iadd (pc := 126) dX1_addSpot_126 ?_
  refine aw_iload_n (pc := 127) dX1_addSpot_127 rfl rfl ?_
  refine aw_iastB (pc := 128) (atX21 _) (stX21 _ _ _) dX1_addSpot_128 (fun σ3 => ?_)
  refine aw_aload_n (pc := 129) dX1_addSpot_129 rfl rfl ?_
  refine aw_get (pc := 130) (v := .inr (some 18)) foX1_18 (atX3 _) rfl dX1_addSpot_130 ?_
  refine aw_iload_n (pc := 133) dX1_addSpot_133 rfl rfl ?_
  refine aw_dup2 (pc := 134) dX1_addSpot_134 ?_
  refine aw_iald' (pc := 135) (atX18 _) dX1_addSpot_135 ?_
  refine aw_iconst (pc := 136) (v := 1) dX1_addSpot_136 (by decide) ?_
  refine aw_iadd (pc := 137) dX1_addSpot_137 ?_
  refine aw_iastB (pc := 138) (atX18 _) (stX18 _ _ _) dX1_addSpot_138 (fun σ4 => ?_)
  exact aw_ret_v (pc := 139) rfl rfl dX1_addSpot_139
noncomputable def fX1_addSpot_B41 (k41 : Int32 → Int32 → Int32 → Int32 → Int32 → ST → Option (Unit × ST)) (l1 : Int32) (l2 : Int32) (l3 : Int32) (l4 : Int32) (l6 : Int32) (σ : ST) : Option (Unit × ST) :=
  if ((l4 + 10) - 1) ≤ l6 then (if ib l1 20 = true then bindv (stI σ 18 l1.toNatClampNeg 9) (fun σ7 => fX1_addSpot_J99 l1 l2 l3 l4 σ7) else none) else (if ib (l6 + 1) 200 = true then if ib l6 200 = true then bindv (stI σ 19 l6.toNatClampNeg (σ.1 19 (l6 + 1).toNatClampNeg)) (fun σ8 => if ib (l6 + 1) 200 = true then if ib l6 200 = true then bindv (stI σ8 21 l6.toNatClampNeg (σ8.1 21 (l6 + 1).toNatClampNeg)) (fun σ9 => bindv (l6 + 1) (fun v10 => k41 l1 l2 l3 l4 v10 σ9)) else none else none) else none else none)
set_option maxRecDepth 10000 in
theorem xX1_addSpot_B41 (k41 : Int32 → Int32 → Int32 → Int32 → Int32 → ST → Option (Unit × ST)) (hk41 : ∀ (l1 : Int32) (l2 : Int32) (l3 : Int32) (l4 : Int32) (l6 : Int32) (σ : ST), AW wlX yX1_addSpot cX1_addSpot 7 none rmX1_addSpot emV (k41 l1 l2 l3 l4 l6 σ) 41 [some (.inr (some 3)), some (.inl l1), some (.inl l2), some (.inl l3), some (.inl l4), none, some (.inl l6)] [] σ) (l1 : Int32) (l2 : Int32) (l3 : Int32) (l4 : Int32) (l6 : Int32) (σ : ST) : AW wlX yX1_addSpot cX1_addSpot 7 none rmX1_addSpot emV (fX1_addSpot_B41 k41 l1 l2 l3 l4 l6 σ) 41 [some (.inr (some 3)), some (.inl l1), some (.inl l2), some (.inl l3), some (.inl l4), none, some (.inl l6)] [] σ := by
  unfold fX1_addSpot_B41
  refine aw_iload (pc := 41) dX1_addSpot_41 rfl ?_
  refine aw_iload (pc := 43) dX1_addSpot_43 rfl ?_
  refine aw_bipush (pc := 45) (v := 10) dX1_addSpot_45 (by decide) ?_
  refine aw_iadd (pc := 47) dX1_addSpot_47 ?_
  refine aw_iconst (pc := 48) (v := 1) dX1_addSpot_48 (by decide) ?_
  refine aw_isub (pc := 49) dX1_addSpot_49 ?_
  refine aw_icmp_ge (pc := 50) (tgt := 91) dX1_addSpot_50 (by decide) (fun _ => ?_) (fun _ => ?_)
  · refine aw_aload_n (pc := 91) dX1_addSpot_91 rfl rfl ?_
    refine aw_get (pc := 92) (v := .inr (some 18)) foX1_18 (atX3 _) rfl dX1_addSpot_92 ?_
    refine aw_iload_n (pc := 95) dX1_addSpot_95 rfl rfl ?_
    refine aw_bipush (pc := 96) (v := 9) dX1_addSpot_96 (by decide) ?_
    refine aw_iastB (pc := 98) (atX18 _) (stX18 _ _ _) dX1_addSpot_98 (fun σ7 => ?_)
    exact aw_wk (wk_same (wk_same (wk_same (wk_same (wk_same (wk_none (wk_none wk_nil))))))) (xX1_addSpot_J99 l1 l2 l3 l4 σ7)
  refine aw_aload_n (pc := 53) dX1_addSpot_53 rfl rfl ?_
  refine aw_get (pc := 54) (v := .inr (some 19)) foX1_22 (atX3 _) rfl dX1_addSpot_54 ?_
  refine aw_iload (pc := 57) dX1_addSpot_57 rfl ?_
  refine aw_aload_n (pc := 59) dX1_addSpot_59 rfl rfl ?_
  refine aw_get (pc := 60) (v := .inr (some 19)) foX1_22 (atX3 _) rfl dX1_addSpot_60 ?_
  refine aw_iload (pc := 63) dX1_addSpot_63 rfl ?_
  refine aw_iconst (pc := 65) (v := 1) dX1_addSpot_65 (by decide) ?_
  refine aw_iadd (pc := 66) dX1_addSpot_66 ?_
  refine aw_iald' (pc := 67) (atX19 _) dX1_addSpot_67 ?_
  refine aw_iastB (pc := 68) (atX19 _) (stX19 _ _ _) dX1_addSpot_68 (fun σ8 => ?_)
  refine aw_aload_n (pc := 69) dX1_addSpot_69 rfl rfl ?_
  refine aw_get (pc := 70) (v := .inr (some 21)) foX1_28 (atX3 _) rfl dX1_addSpot_70 ?_
  refine aw_iload (pc := 73) dX1_addSpot_73 rfl ?_
  refine aw_aload_n (pc := 75) dX1_addSpot_75 rfl rfl ?_
  refine aw_get (pc := 76) (v := .inr (some 21)) foX1_28 (atX3 _) rfl dX1_addSpot_76 ?_
  refine aw_iload (pc := 79) dX1_addSpot_79 rfl ?_
  refine aw_iconst (pc := 81) (v := 1) dX1_addSpot_81 (by decide) ?_
  refine aw_iadd (pc := 82) dX1_addSpot_82 ?_
  refine aw_iald' (pc := 83) (atX21 _) dX1_addSpot_83 ?_
  refine aw_iastB (pc := 84) (atX21 _) (stX21 _ _ _) dX1_addSpot_84 (fun σ9 => ?_)
  refine aw_iincB (pc := 85) (v := 1) (Lf := fun v10 => [some (.inr (some 3)), some (.inl l1), some (.inl l2), some (.inl l3), some (.inl l4), none, some (.inl v10)]) dX1_addSpot_85 rfl (by decide) (by decide) (fun _ => rfl) (fun v10 => ?_)
  refine aw_goto (pc := 88) (tgt := 41) dX1_addSpot_88 (by decide) ?_
  exact aw_wk (wk_same (wk_same (wk_same (wk_same (wk_same (wk_none (wk_same wk_nil))))))) (hk41 l1 l2 l3 l4 v10 σ9)
noncomputable def fX1_addSpot_L41 (n : Nat) (l1 : Int32) (l2 : Int32) (l3 : Int32) (l4 : Int32) (l6 : Int32) (σ : ST) : Option (Unit × ST) := loopN (α := Int32 × Int32 × Int32 × Int32 × Int32 × ST) (fun k a => fX1_addSpot_B41 (fun l1 l2 l3 l4 l6 σ => k (l1, l2, l3, l4, l6, σ)) a.1 a.2.1 a.2.2.1 a.2.2.2.1 a.2.2.2.2.1 a.2.2.2.2.2) n (l1, l2, l3, l4, l6, σ)
theorem xX1_addSpot_L41 (n : Nat) (l1 : Int32) (l2 : Int32) (l3 : Int32) (l4 : Int32) (l6 : Int32) (σ : ST) : AW wlX yX1_addSpot cX1_addSpot 7 none rmX1_addSpot emV (fX1_addSpot_L41 n l1 l2 l3 l4 l6 σ) 41 [some (.inr (some 3)), some (.inl l1), some (.inl l2), some (.inl l3), some (.inl l4), none, some (.inl l6)] [] σ :=
  aw_loop (α := Int32 × Int32 × Int32 × Int32 × Int32 × ST) (Lf := fun a => [some (.inr (some 3)), some (.inl (a.1)), some (.inl (a.2.1)), some (.inl (a.2.2.1)), some (.inl (a.2.2.2.1)), none, some (.inl (a.2.2.2.2.1))]) (sf := fun a => a.2.2.2.2.2) (fun k hk a => by
    obtain ⟨l1, l2, l3, l4, l6, σ⟩ := a
    exact xX1_addSpot_B41 (fun l1 l2 l3 l4 l6 σ => k (l1, l2, l3, l4, l6, σ)) (fun l1 l2 l3 l4 l6 σ => hk (l1, l2, l3, l4, l6, σ)) l1 l2 l3 l4 l6 σ) n (l1, l2, l3, l4, l6, σ)
noncomputable def fX1_addSpot (a1 : Int32) (a2 : Int32) (a3 : Int32) (σ : ST) : Option (Unit × ST) :=
  bindv (a1 * 10) (fun v1 => if ib a1 20 = true then if (σ.1 18 a1.toNatClampNeg) < 10 then (fX1_addSpot_J99 a1 a2 a3 v1 σ) else (cb (fX1_worstSlot v1 σ) (fun r5 σ6 => if ib r5 200 = true then if a3 < (σ6.1 21 r5.toNatClampNeg) then (fX1_addSpot_L41 FU a1 a2 a3 v1 r5 σ6) else (some ((), σ6)) else none)) else none)
set_option maxRecDepth 10000 in
theorem xX1_addSpot (a1 : Int32) (a2 : Int32) (a3 : Int32) (σ : ST) : MS wlX yX1_addSpot cX1_addSpot 7 none rmX1_addSpot emV [.inr (some 3), .inl a1, .inl a2, .inl a3] σ (fX1_addSpot a1 a2 a3 σ) := by
  refine MS.of (by decide +kernel) (Nat.le_of_ble_eq_true rfl) ?_
  show AW wlX yX1_addSpot cX1_addSpot 7 none rmX1_addSpot emV (fX1_addSpot a1 a2 a3 σ) 0 [some (.inr (some 3)), some (.inl a1), some (.inl a2), some (.inl a3), none, none, none] [] σ
  unfold fX1_addSpot
  refine aw_iload_n (pc := 0) dX1_addSpot_0 rfl rfl ?_
  refine aw_bipush (pc := 1) (v := 10) dX1_addSpot_1 (by decide) ?_
  refine aw_imul (pc := 3) dX1_addSpot_3 ?_
  refine aw_stB (pc := 4) (Lf := fun v1 => [some (.inr (some 3)), some (.inl a1), some (.inl a2), some (.inl a3), some (.inl v1), none, none]) dX1_addSpot_4 (by decide) (fun _ => rfl) (fun v1 => ?_)
  refine aw_aload_n (pc := 6) dX1_addSpot_6 rfl rfl ?_
  refine aw_get (pc := 7) (v := .inr (some 18)) foX1_18 (atX3 _) rfl dX1_addSpot_7 ?_
  refine aw_iload_n (pc := 10) dX1_addSpot_10 rfl rfl ?_
  refine aw_iald' (pc := 11) (atX18 _) dX1_addSpot_11 ?_
  refine aw_bipush (pc := 12) (v := 10) dX1_addSpot_12 (by decide) ?_
  refine aw_icmp_lt (pc := 14) (tgt := 99) dX1_addSpot_14 (by decide) (fun _ => ?_) (fun _ => ?_)
  · exact aw_wk (wk_same (wk_same (wk_same (wk_same (wk_same (wk_none (wk_none wk_nil))))))) (xX1_addSpot_J99 a1 a2 a3 v1 σ)
  refine aw_aload_n (pc := 17) dX1_addSpot_17 rfl rfl ?_
  refine aw_iload (pc := 18) dX1_addSpot_18 rfl ?_
  refine aw_cVI (pc := 20) (st := []) (xX1_worstSlot v1 σ) (atX3 _) rfl ckX1_111 ⟨rfl, rfl, by decide, by decide⟩ (Nat.le_of_ble_eq_true rfl) dX1_addSpot_20 rfl (fun r5 σ6 => ?_)
  refine aw_st (pc := 23) (L' := [some (.inr (some 3)), some (.inl a1), some (.inl a2), some (.inl a3), some (.inl v1), some (.inl r5), none]) dX1_addSpot_23 (by decide) rfl ?_
  refine aw_aload_n (pc := 25) dX1_addSpot_25 rfl rfl ?_
  refine aw_get (pc := 26) (v := .inr (some 21)) foX1_28 (atX3 _) rfl dX1_addSpot_26 ?_
  refine aw_iload (pc := 29) dX1_addSpot_29 rfl ?_
  refine aw_iald' (pc := 31) (atX21 _) dX1_addSpot_31 ?_
  refine aw_iload_n (pc := 32) dX1_addSpot_32 rfl rfl ?_
  refine aw_icmp_gt (pc := 33) (tgt := 37) dX1_addSpot_33 (by decide) (fun _ => ?_) (fun _ => ?_)
  · refine aw_iload (pc := 37) dX1_addSpot_37 rfl ?_
    refine aw_st (pc := 39) (L' := [some (.inr (some 3)), some (.inl a1), some (.inl a2), some (.inl a3), some (.inl v1), some (.inl r5), some (.inl r5)]) dX1_addSpot_39 (by decide) rfl ?_
    exact aw_wk (wk_same (wk_same (wk_same (wk_same (wk_same (wk_none (wk_same wk_nil))))))) (xX1_addSpot_L41 FU a1 a2 a3 v1 r5 σ6)
  exact aw_ret_v (pc := 36) rfl rfl dX1_addSpot_36
abbrev rmX1_findSpots : Room := { frames := 2, cells := 0, slots := 0, locals := 49 }
noncomputable def fX1_findSpots_J76 (k21 : Int32 → Int32 → Int32 → Int32 → Int32 → Int32 → ST → Option (Unit × ST)) (l1 : Int32) (l2 : Int32) (l3 : Int32) (l4 : Int32) (l5 : Int32) (l6 : Int32) (σ : ST) : Option (Unit × ST) :=
  bindv (l6 + 1) (fun v3 => k21 l1 l2 l3 l4 l5 v3 σ)
set_option maxRecDepth 10000 in
theorem xX1_findSpots_J76 (k21 : Int32 → Int32 → Int32 → Int32 → Int32 → Int32 → ST → Option (Unit × ST)) (hk21 : ∀ (l1 : Int32) (l2 : Int32) (l3 : Int32) (l4 : Int32) (l5 : Int32) (l6 : Int32) (σ : ST), AW wlX yX1_findSpots cX1_findSpots 8 none rmX1_findSpots emV (k21 l1 l2 l3 l4 l5 l6 σ) 21 [some (.inr (some 3)), some (.inl l1), some (.inl l2), some (.inl l3), some (.inl l4), some (.inl l5), some (.inl l6), none] [] σ) (l1 : Int32) (l2 : Int32) (l3 : Int32) (l4 : Int32) (l5 : Int32) (l6 : Int32) (σ : ST) : AW wlX yX1_findSpots cX1_findSpots 8 none rmX1_findSpots emV (fX1_findSpots_J76 k21 l1 l2 l3 l4 l5 l6 σ) 76 [some (.inr (some 3)), some (.inl l1), some (.inl l2), some (.inl l3), some (.inl l4), some (.inl l5), some (.inl l6), none] [] σ := by
  unfold fX1_findSpots_J76
  refine aw_iincB (pc := 76) (v := 1) (Lf := fun v3 => [some (.inr (some 3)), some (.inl l1), some (.inl l2), some (.inl l3), some (.inl l4), some (.inl l5), some (.inl v3), none]) dX1_findSpots_76 rfl (by decide) (by decide) (fun _ => rfl) (fun v3 => ?_)
  refine aw_goto (pc := 79) (tgt := 21) dX1_findSpots_79 (by decide) ?_
  exact aw_wk (wk_same (wk_same (wk_same (wk_same (wk_same (wk_same (wk_same (wk_none wk_nil)))))))) (hk21 l1 l2 l3 l4 l5 v3 σ)
noncomputable def fX1_findSpots_B21 (k21 : Int32 → Int32 → Int32 → Int32 → Int32 → Int32 → ST → Option (Unit × ST)) (l1 : Int32) (l2 : Int32) (l3 : Int32) (l4 : Int32) (l5 : Int32) (l6 : Int32) (σ : ST) : Option (Unit × ST) :=
  if l5 ≤ l6 then (some ((), σ)) else (if ib (l6 / 5) 30 = true then if (σ.1 10 (l6 / 5).toNatClampNeg) = 2 then (fX1_findSpots_J76 k21 l1 l2 l3 l4 l5 l6 σ) else (cb (fX2_offFrom l6 l2 l3 σ) (fun r4 σ5 => if (l4 * l4) < r4 then (fX1_findSpots_J76 k21 l1 l2 l3 l4 l5 l6 σ5) else (cb (fX1_addSpot l1 l6 r4 σ5) (fun r6 σ7 => fX1_findSpots_J76 k21 l1 l2 l3 l4 l5 l6 σ7)))) else none)
set_option maxRecDepth 10000 in
theorem xX1_findSpots_B21 (k21 : Int32 → Int32 → Int32 → Int32 → Int32 → Int32 → ST → Option (Unit × ST)) (hk21 : ∀ (l1 : Int32) (l2 : Int32) (l3 : Int32) (l4 : Int32) (l5 : Int32) (l6 : Int32) (σ : ST), AW wlX yX1_findSpots cX1_findSpots 8 none rmX1_findSpots emV (k21 l1 l2 l3 l4 l5 l6 σ) 21 [some (.inr (some 3)), some (.inl l1), some (.inl l2), some (.inl l3), some (.inl l4), some (.inl l5), some (.inl l6), none] [] σ) (l1 : Int32) (l2 : Int32) (l3 : Int32) (l4 : Int32) (l5 : Int32) (l6 : Int32) (σ : ST) : AW wlX yX1_findSpots cX1_findSpots 8 none rmX1_findSpots emV (fX1_findSpots_B21 k21 l1 l2 l3 l4 l5 l6 σ) 21 [some (.inr (some 3)), some (.inl l1), some (.inl l2), some (.inl l3), some (.inl l4), some (.inl l5), some (.inl l6), none] [] σ := by
  unfold fX1_findSpots_B21
  refine aw_iload (pc := 21) dX1_findSpots_21 rfl ?_
  refine aw_iload (pc := 23) dX1_findSpots_23 rfl ?_
  refine aw_icmp_ge (pc := 25) (tgt := 82) dX1_findSpots_25 (by decide) (fun _ => ?_) (fun _ => ?_)
  · exact aw_ret_v (pc := 82) rfl rfl dX1_findSpots_82
  refine aw_aload_n (pc := 28) dX1_findSpots_28 rfl rfl ?_
  refine aw_get (pc := 29) (v := .inr (some 1)) foX1_43 (atX3 _) rfl dX1_findSpots_29 ?_
  refine aw_get (pc := 32) (v := .inr (some 10)) foX1_100 (atX1 _) rfl dX1_findSpots_32 ?_
  refine aw_iload (pc := 35) dX1_findSpots_35 rfl ?_
  refine aw_iconst (pc := 37) (v := 5) dX1_findSpots_37 (by decide) ?_
  refine aw_idiv (pc := 38) dX1_findSpots_38 (by decide) ?_
  refine aw_iald' (pc := 39) (atX10 _) dX1_findSpots_39 ?_
  refine aw_iconst (pc := 40) (v := 2) dX1_findSpots_40 (by decide) ?_
  refine aw_icmp_eq (pc := 41) (tgt := 76) dX1_findSpots_41 (by decide) (fun _ => ?_) (fun _ => ?_)
  · exact aw_wk (wk_same (wk_same (wk_same (wk_same (wk_same (wk_same (wk_same (wk_none wk_nil)))))))) (xX1_findSpots_J76 k21 hk21 l1 l2 l3 l4 l5 l6 σ)
  refine aw_aload_n (pc := 44) dX1_findSpots_44 rfl rfl ?_
  refine aw_get (pc := 45) (v := .inr (some 1)) foX1_43 (atX3 _) rfl dX1_findSpots_45 ?_
  refine aw_iload (pc := 48) dX1_findSpots_48 rfl ?_
  refine aw_iload_n (pc := 50) dX1_findSpots_50 rfl rfl ?_
  refine aw_iload_n (pc := 51) dX1_findSpots_51 rfl rfl ?_
  refine aw_cVI (pc := 52) (st := []) (xX2_offFrom l6 l2 l3 σ) (atX1 _) rfl ckX1_103 ⟨rfl, rfl, by decide, by decide⟩ (Nat.le_of_ble_eq_true rfl) dX1_findSpots_52 rfl (fun r4 σ5 => ?_)
  refine aw_st (pc := 55) (L' := [some (.inr (some 3)), some (.inl l1), some (.inl l2), some (.inl l3), some (.inl l4), some (.inl l5), some (.inl l6), some (.inl r4)]) dX1_findSpots_55 (by decide) rfl ?_
  refine aw_iload (pc := 57) dX1_findSpots_57 rfl ?_
  refine aw_iload (pc := 59) dX1_findSpots_59 rfl ?_
  refine aw_iload (pc := 61) dX1_findSpots_61 rfl ?_
  refine aw_imul (pc := 63) dX1_findSpots_63 ?_
  refine aw_icmp_gt (pc := 64) (tgt := 76) dX1_findSpots_64 (by decide) (fun _ => ?_) (fun _ => ?_)
  · exact aw_wk (wk_same (wk_same (wk_same (wk_same (wk_same (wk_same (wk_same (wk_none wk_nil)))))))) (xX1_findSpots_J76 k21 hk21 l1 l2 l3 l4 l5 l6 σ5)
  refine aw_aload_n (pc := 67) dX1_findSpots_67 rfl rfl ?_
  refine aw_iload_n (pc := 68) dX1_findSpots_68 rfl rfl ?_
  refine aw_iload (pc := 69) dX1_findSpots_69 rfl ?_
  refine aw_iload (pc := 71) dX1_findSpots_71 rfl ?_
  refine aw_cVV (pc := 73) (st := []) (xX1_addSpot l1 l6 r4 σ5) (atX3 _) rfl ckX1_107 ⟨rfl, rfl, by decide, by decide⟩ (Nat.le_of_ble_eq_true rfl) dX1_findSpots_73 rfl (fun r6 σ7 => ?_)
  exact aw_wk (wk_same (wk_same (wk_same (wk_same (wk_same (wk_same (wk_same (wk_none wk_nil)))))))) (xX1_findSpots_J76 k21 hk21 l1 l2 l3 l4 l5 l6 σ7)
noncomputable def fX1_findSpots_L21 (n : Nat) (l1 : Int32) (l2 : Int32) (l3 : Int32) (l4 : Int32) (l5 : Int32) (l6 : Int32) (σ : ST) : Option (Unit × ST) := loopN (α := Int32 × Int32 × Int32 × Int32 × Int32 × Int32 × ST) (fun k a => fX1_findSpots_B21 (fun l1 l2 l3 l4 l5 l6 σ => k (l1, l2, l3, l4, l5, l6, σ)) a.1 a.2.1 a.2.2.1 a.2.2.2.1 a.2.2.2.2.1 a.2.2.2.2.2.1 a.2.2.2.2.2.2) n (l1, l2, l3, l4, l5, l6, σ)
theorem xX1_findSpots_L21 (n : Nat) (l1 : Int32) (l2 : Int32) (l3 : Int32) (l4 : Int32) (l5 : Int32) (l6 : Int32) (σ : ST) : AW wlX yX1_findSpots cX1_findSpots 8 none rmX1_findSpots emV (fX1_findSpots_L21 n l1 l2 l3 l4 l5 l6 σ) 21 [some (.inr (some 3)), some (.inl l1), some (.inl l2), some (.inl l3), some (.inl l4), some (.inl l5), some (.inl l6), none] [] σ :=
  aw_loop (α := Int32 × Int32 × Int32 × Int32 × Int32 × Int32 × ST) (Lf := fun a => [some (.inr (some 3)), some (.inl (a.1)), some (.inl (a.2.1)), some (.inl (a.2.2.1)), some (.inl (a.2.2.2.1)), some (.inl (a.2.2.2.2.1)), some (.inl (a.2.2.2.2.2.1)), none]) (sf := fun a => a.2.2.2.2.2.2) (fun k hk a => by
    obtain ⟨l1, l2, l3, l4, l5, l6, σ⟩ := a
    exact xX1_findSpots_B21 (fun l1 l2 l3 l4 l5 l6 σ => k (l1, l2, l3, l4, l5, l6, σ)) (fun l1 l2 l3 l4 l5 l6 σ => hk (l1, l2, l3, l4, l5, l6, σ)) l1 l2 l3 l4 l5 l6 σ) n (l1, l2, l3, l4, l5, l6, σ)
noncomputable def fX1_findSpots (a1 : Int32) (a2 : Int32) (a3 : Int32) (a4 : Int32) (σ : ST) : Option (Unit × ST) :=
  if ib a1 20 = true then bindv (stI σ 18 a1.toNatClampNeg 0) (fun σ1 => bindv (5 * (σ1.1 1 3)) (fun v2 => fX1_findSpots_L21 FU a1 a2 a3 a4 v2 0 σ1)) else none
set_option maxRecDepth 10000 in
theorem xX1_findSpots (a1 : Int32) (a2 : Int32) (a3 : Int32) (a4 : Int32) (σ : ST) : MS wlX yX1_findSpots cX1_findSpots 8 none rmX1_findSpots emV [.inr (some 3), .inl a1, .inl a2, .inl a3, .inl a4] σ (fX1_findSpots a1 a2 a3 a4 σ) := by
  refine MS.of (by decide +kernel) (Nat.le_of_ble_eq_true rfl) ?_
  show AW wlX yX1_findSpots cX1_findSpots 8 none rmX1_findSpots emV (fX1_findSpots a1 a2 a3 a4 σ) 0 [some (.inr (some 3)), some (.inl a1), some (.inl a2), some (.inl a3), some (.inl a4), none, none, none] [] σ
  unfold fX1_findSpots
  refine aw_aload_n (pc := 0) dX1_findSpots_0 rfl rfl ?_
  refine aw_get (pc := 1) (v := .inr (some 18)) foX1_18 (atX3 _) rfl dX1_findSpots_1 ?_
  refine aw_iload_n (pc := 4) dX1_findSpots_4 rfl rfl ?_
  refine aw_iconst (pc := 5) (v := 0) dX1_findSpots_5 (by decide) ?_
  refine aw_iastB (pc := 6) (atX18 _) (stX18 _ _ _) dX1_findSpots_6 (fun σ1 => ?_)
  refine aw_iconst (pc := 7) (v := 5) dX1_findSpots_7 (by decide) ?_
  refine aw_aload_n (pc := 8) dX1_findSpots_8 rfl rfl ?_
  refine aw_get (pc := 9) (v := .inr (some 1)) foX1_43 (atX3 _) rfl dX1_findSpots_9 ?_
  refine aw_get (pc := 12) (v := .inl (σ1.1 1 3)) foX1_95 (atX1 _) rfl dX1_findSpots_12 ?_
  refine aw_imul (pc := 15) dX1_findSpots_15 ?_
  refine aw_stB (pc := 16) (Lf := fun v2 => [some (.inr (some 3)), some (.inl a1), some (.inl a2), some (.inl a3), some (.inl a4), some (.inl v2), none, none]) dX1_findSpots_16 (by decide) (fun _ => rfl) (fun v2 => ?_)
  refine aw_iconst (pc := 18) (v := 0) dX1_findSpots_18 (by decide) ?_
  refine aw_st (pc := 19) (L' := [some (.inr (some 3)), some (.inl a1), some (.inl a2), some (.inl a3), some (.inl a4), some (.inl v2), some (.inl 0), none]) dX1_findSpots_19 (by decide) rfl ?_
  exact aw_wk (wk_same (wk_same (wk_same (wk_same (wk_same (wk_same (wk_same (wk_none wk_nil)))))))) (xX1_findSpots_L21 FU a1 a2 a3 a4 v2 0 σ1)
abbrev rmX1_gather : Room := { frames := 3, cells := 0, slots := 0, locals := 76 }
noncomputable def fX1_gather_B29 (k29 : Nat → Int32 → ST → Option (Unit × ST)) (l1 : Nat) (l2 : Int32) (σ : ST) : Option (Unit × ST) :=
  if (σ.1 3 15) ≤ l2 then (some ((), σ)) else (if isDr σ l1 = true then if (isRw σ ((l1 + 1)) && ib l2 20) = true then if isDr σ l1 = true then if (isRw σ ((l1 + 2)) && ib l2 20) = true then if isDr σ l1 = true then if (isRw σ ((l1 + 4)) && ib l2 20) = true then cb (fX1_findSpots l2 (σ.1 ((l1 + 1)) l2.toNatClampNeg) (σ.1 ((l1 + 2)) l2.toNatClampNeg) (σ.1 ((l1 + 4)) l2.toNatClampNeg) σ) (fun r5 σ6 => bindv (l2 + 1) (fun v7 => k29 l1 v7 σ6)) else none else none else none else none else none else none)
set_option maxRecDepth 10000 in
theorem xX1_gather_B29 (k29 : Nat → Int32 → ST → Option (Unit × ST)) (hk29 : ∀ (l1 : Nat) (l2 : Int32) (σ : ST), AW wlX yX1_gather cX1_gather 3 none rmX1_gather emV (k29 l1 l2 σ) 29 [some (.inr (some 3)), some (.inr (some l1)), some (.inl l2)] [] σ) (l1 : Nat) (l2 : Int32) (σ : ST) : AW wlX yX1_gather cX1_gather 3 none rmX1_gather emV (fX1_gather_B29 k29 l1 l2 σ) 29 [some (.inr (some 3)), some (.inr (some l1)), some (.inl l2)] [] σ := by
  unfold fX1_gather_B29
  refine aw_iload_n (pc := 29) dX1_gather_29 rfl rfl ?_
  refine aw_aload_n (pc := 30) dX1_gather_30 rfl rfl ?_
  refine aw_get (pc := 31) (v := .inl (σ.1 3 15)) foX1_64 (atX3 _) rfl dX1_gather_31 ?_
  refine aw_icmp_ge (pc := 34) (tgt := 66) dX1_gather_34 (by decide) (fun _ => ?_) (fun _ => ?_)
  · exact aw_ret_v (pc := 66) rfl rfl dX1_gather_66
  refine aw_aload_n (pc := 37) dX1_gather_37 rfl rfl ?_
  refine aw_iload_n (pc := 38) dX1_gather_38 rfl rfl ?_
  refine aw_aload_n (pc := 39) dX1_gather_39 rfl rfl ?_
  refine aw_getD (pc := 40) (v := .inr (some ((l1 + 1)))) foX1_65 rfl dX1_gather_40 ?_
  refine aw_iload_n (pc := 43) dX1_gather_43 rfl rfl ?_
  refine aw_ildR (pc := 44) dX1_gather_44 ?_
  refine aw_aload_n (pc := 45) dX1_gather_45 rfl rfl ?_
  refine aw_getD (pc := 46) (v := .inr (some ((l1 + 2)))) foX1_68 rfl dX1_gather_46 ?_
  refine aw_iload_n (pc := 49) dX1_gather_49 rfl rfl ?_
  refine aw_ildR (pc := 50) dX1_gather_50 ?_
  refine aw_aload_n (pc := 51) dX1_gather_51 rfl rfl ?_
  refine aw_getD (pc := 52) (v := .inr (some ((l1 + 4)))) foX1_71 rfl dX1_gather_52 ?_
  refine aw_iload_n (pc := 55) dX1_gather_55 rfl rfl ?_
  refine aw_ildR (pc := 56) dX1_gather_56 ?_
  refine aw_cVV (pc := 57) (st := []) (xX1_findSpots l2 (σ.1 ((l1 + 1)) l2.toNatClampNeg) (σ.1 ((l1 + 2)) l2.toNatClampNeg) (σ.1 ((l1 + 4)) l2.toNatClampNeg) σ) (atX3 _) rfl ckX1_74 ⟨rfl, rfl, by decide, by decide⟩ (Nat.le_of_ble_eq_true rfl) dX1_gather_57 rfl (fun r5 σ6 => ?_)
  refine aw_iincB (pc := 60) (v := 1) (Lf := fun v7 => [some (.inr (some 3)), some (.inr (some l1)), some (.inl v7)]) dX1_gather_60 rfl (by decide) (by decide) (fun _ => rfl) (fun v7 => ?_)
  refine aw_goto (pc := 63) (tgt := 29) dX1_gather_63 (by decide) ?_
  exact aw_wk (wk_same (wk_same (wk_same wk_nil))) (hk29 l1 v7 σ6)
noncomputable def fX1_gather_L29 (n : Nat) (l1 : Nat) (l2 : Int32) (σ : ST) : Option (Unit × ST) := loopN (α := Nat × Int32 × ST) (fun k a => fX1_gather_B29 (fun l1 l2 σ => k (l1, l2, σ)) a.1 a.2.1 a.2.2) n (l1, l2, σ)
theorem xX1_gather_L29 (n : Nat) (l1 : Nat) (l2 : Int32) (σ : ST) : AW wlX yX1_gather cX1_gather 3 none rmX1_gather emV (fX1_gather_L29 n l1 l2 σ) 29 [some (.inr (some 3)), some (.inr (some l1)), some (.inl l2)] [] σ :=
  aw_loop (α := Nat × Int32 × ST) (Lf := fun a => [some (.inr (some 3)), some (.inr (some (a.1))), some (.inl (a.2.1))]) (sf := fun a => a.2.2) (fun k hk a => by
    obtain ⟨l1, l2, σ⟩ := a
    exact xX1_gather_B29 (fun l1 l2 σ => k (l1, l2, σ)) (fun l1 l2 σ => hk (l1, l2, σ)) l1 l2 σ) n (l1, l2, σ)
noncomputable def fX1_gather (a1 : Nat) (σ : ST) : Option (Unit × ST) :=
  bindv (σ.2.1 3 12) (fun q1 => if (refOK σ q1 && refOK σ (some a1)) = true then (if q1 = (some a1) then (some ((), σ)) else (bindv (stR σ 3 12 (some a1)) (fun σ2 => bindv (stI σ2 3 13 0) (fun σ3 => if isDr σ3 a1 = true then bindv (stI σ3 3 15 (σ3.1 a1 0)) (fun σ4 => fX1_gather_L29 FU a1 0 σ4) else none)))) else none)
set_option maxRecDepth 10000 in
theorem xX1_gather (a1 : Nat) (σ : ST) : MS wlX yX1_gather cX1_gather 3 none rmX1_gather emV [.inr (some 3), .inr (some a1)] σ (fX1_gather a1 σ) := by
  refine MS.of (by decide +kernel) (Nat.le_of_ble_eq_true rfl) ?_
  show AW wlX yX1_gather cX1_gather 3 none rmX1_gather emV (fX1_gather a1 σ) 0 [some (.inr (some 3)), some (.inr (some a1)), none] [] σ
  unfold fX1_gather
  refine aw_aload_n (pc := 0) dX1_gather_0 rfl rfl ?_
  refine aw_getQ (pc := 1) foX1_51 (atX3 _) rfl dX1_gather_1 (fun q1 => ?_)
  refine aw_aload_n (pc := 4) dX1_gather_4 rfl rfl ?_
  refine aw_acmpX (pc := 5) (tgt := 9) dX1_gather_5 (by decide) (fun _ => ?_) (fun _ => ?_)
  · exact aw_ret_v (pc := 8) rfl rfl dX1_gather_8
  refine aw_aload_n (pc := 9) dX1_gather_9 rfl rfl ?_
  refine aw_aload_n (pc := 10) dX1_gather_10 rfl rfl ?_
  refine aw_putQ (pc := 11) fwX1_51 (atX3 _) (Nat.le_of_ble_eq_true rfl) (stX3_12 _ _) dX1_gather_11 (fun σ2 => ?_)
  refine aw_aload_n (pc := 14) dX1_gather_14 rfl rfl ?_
  refine aw_iconst (pc := 15) (v := 0) dX1_gather_15 (by decide) ?_
  refine aw_putZ (pc := 16) fwX1_55 (atX3 _) (Nat.le_of_ble_eq_true rfl) (by decide) (stX3_13 _ _) dX1_gather_16 (fun σ3 => ?_)
  refine aw_aload_n (pc := 19) dX1_gather_19 rfl rfl ?_
  refine aw_aload_n (pc := 20) dX1_gather_20 rfl rfl ?_
  refine aw_getD (pc := 21) (v := .inl (σ3.1 a1 0)) foX1_59 rfl dX1_gather_21 ?_
  refine aw_putI (pc := 24) fwX1_64 (atX3 _) (Nat.le_of_ble_eq_true rfl) (stX3_15 _ _) dX1_gather_24 (fun σ4 => ?_)
  refine aw_iconst (pc := 27) (v := 0) dX1_gather_27 (by decide) ?_
  refine aw_stn (pc := 28) (L' := [some (.inr (some 3)), some (.inr (some a1)), some (.inl 0)]) dX1_gather_28 rfl (by decide) rfl ?_
  exact aw_wk (wk_same (wk_same (wk_same wk_nil))) (xX1_gather_L29 FU a1 0 σ4)
abbrev rmX1_longestLeg : Room := { frames := 0, cells := 0, slots := 0, locals := 0 }
noncomputable def fX1_longestLeg (a1 : Int32) (σ : ST) : Option (Int32 × ST) :=
  some ((((σ.1 3 0) * 4) * a1), σ)
set_option maxRecDepth 10000 in
theorem xX1_longestLeg (a1 : Int32) (σ : ST) : MS wlX yX1_longestLeg cX1_longestLeg 2 (some .int) rmX1_longestLeg emI [.inr (some 3), .inl a1] σ (fX1_longestLeg a1 σ) := by
  refine MS.of (by decide +kernel) (Nat.le_of_ble_eq_true rfl) ?_
  show AW wlX yX1_longestLeg cX1_longestLeg 2 (some .int) rmX1_longestLeg emI (fX1_longestLeg a1 σ) 0 [some (.inr (some 3)), some (.inl a1)] [] σ
  unfold fX1_longestLeg
  refine aw_aload_n (pc := 0) dX1_longestLeg_0 rfl rfl ?_
  refine aw_get (pc := 1) (v := .inl (σ.1 3 0)) foX1_9 (atX3 _) rfl dX1_longestLeg_1 ?_
  refine aw_iconst (pc := 4) (v := 4) dX1_longestLeg_4 (by decide) ?_
  refine aw_imul (pc := 5) dX1_longestLeg_5 ?_
  refine aw_iload_n (pc := 6) dX1_longestLeg_6 rfl rfl ?_
  refine aw_imul (pc := 7) dX1_longestLeg_7 ?_
  exact aw_ret_i (pc := 8) rfl rfl rfl dX1_longestLeg_8
abbrev rmX1_legLength : Room := { frames := 3, cells := 0, slots := 0, locals := 77 }
noncomputable def fX1_legLength (a1 : Int32) (a2 : Int32) (a3 : Int32) (σ : ST) : Option (Int32 × ST) :=
  cb (fX3_least a1 a2 σ) (fun r1 σ2 => if r1 = 2000000000 then (some ((-4), σ2)) else (if (r1 / 10000) ≤ a3 then (some ((r1 / 10000), σ2)) else (some ((-4), σ2))))
set_option maxRecDepth 10000 in
theorem xX1_legLength (a1 : Int32) (a2 : Int32) (a3 : Int32) (σ : ST) : MS wlX yX1_legLength cX1_legLength 5 (some .int) rmX1_legLength emI [.inr (some 3), .inl a1, .inl a2, .inl a3] σ (fX1_legLength a1 a2 a3 σ) := by
  refine MS.of (by decide +kernel) (Nat.le_of_ble_eq_true rfl) ?_
  show AW wlX yX1_legLength cX1_legLength 5 (some .int) rmX1_legLength emI (fX1_legLength a1 a2 a3 σ) 0 [some (.inr (some 3)), some (.inl a1), some (.inl a2), some (.inl a3), none] [] σ
  unfold fX1_legLength
  refine aw_aload_n (pc := 0) dX1_legLength_0 rfl rfl ?_
  refine aw_get (pc := 1) (v := .inr (some 2)) foX1_47 (atX3 _) rfl dX1_legLength_1 ?_
  refine aw_iload_n (pc := 4) dX1_legLength_4 rfl rfl ?_
  refine aw_iload_n (pc := 5) dX1_legLength_5 rfl rfl ?_
  refine aw_cVI (pc := 6) (st := []) (xX3_least a1 a2 σ) (atX2 _) rfl ckX1_125 ⟨rfl, rfl, by decide, by decide⟩ (Nat.le_of_ble_eq_true rfl) dX1_legLength_6 rfl (fun r1 σ2 => ?_)
  refine aw_st (pc := 9) (L' := [some (.inr (some 3)), some (.inl a1), some (.inl a2), some (.inl a3), some (.inl r1)]) dX1_legLength_9 (by decide) rfl ?_
  refine aw_iload (pc := 11) dX1_legLength_11 rfl ?_
  refine aw_ldc (pc := 13) lcX1_131 dX1_legLength_13 ?_
  refine aw_icmp_eq (pc := 15) (tgt := 28) dX1_legLength_15 (by decide) (fun _ => ?_) (fun _ => ?_)
  · refine aw_bipush (pc := 28) (v := (-4)) dX1_legLength_28 (by decide) ?_
    refine aw_goto (pc := 30) (tgt := 39) dX1_legLength_30 (by decide) ?_
    exact aw_ret_i (pc := 39) rfl rfl rfl dX1_legLength_39
  refine aw_iload (pc := 18) dX1_legLength_18 rfl ?_
  refine aw_sipush (pc := 20) (v := 10000) dX1_legLength_20 (by decide) ?_
  refine aw_idiv (pc := 23) dX1_legLength_23 (by decide) ?_
  refine aw_iload_n (pc := 24) dX1_legLength_24 rfl rfl ?_
  refine aw_icmp_le (pc := 25) (tgt := 33) dX1_legLength_25 (by decide) (fun _ => ?_) (fun _ => ?_)
  · refine aw_iload (pc := 33) dX1_legLength_33 rfl ?_
    refine aw_sipush (pc := 35) (v := 10000) dX1_legLength_35 (by decide) ?_
    refine aw_idiv (pc := 38) dX1_legLength_38 (by decide) ?_
    exact aw_ret_i (pc := 39) rfl rfl rfl dX1_legLength_39
  refine aw_bipush (pc := 28) (v := (-4)) dX1_legLength_28 (by decide) ?_
  refine aw_goto (pc := 30) (tgt := 39) dX1_legLength_30 (by decide) ?_
  exact aw_ret_i (pc := 39) rfl rfl rfl dX1_legLength_39
abbrev rmX1_writeRow : Room := { frames := 0, cells := 0, slots := 0, locals := 0 }
noncomputable def fX1_writeRow_B26 (k26 : Nat → Int32 → Int32 → ST → Option (Unit × ST)) (l2 : Nat) (l3 : Int32) (l4 : Int32) (σ : ST) : Option (Unit × ST) :=
  if (σ.1 3 15) ≤ l4 then (some ((), σ)) else (if l3 = (-1) then (some ((), σ)) else (if ib l3 200 = true then if (isRw σ l2 && ib (l3 / 10) 20) = true then bindv (stI σ l2 (l3 / 10).toNatClampNeg (σ.1 19 l3.toNatClampNeg)) (fun σ1 => if ib l3 200 = true then bindv (σ1.1 23 l3.toNatClampNeg) (fun v2 => bindv (l4 + 1) (fun v3 => k26 l2 v2 v3 σ1)) else none) else none else none))
set_option maxRecDepth 10000 in
theorem xX1_writeRow_B26 (k26 : Nat → Int32 → Int32 → ST → Option (Unit × ST)) (hk26 : ∀ (l2 : Nat) (l3 : Int32) (l4 : Int32) (σ : ST), AW wlX yX1_writeRow cX1_writeRow 5 none rmX1_writeRow emV (k26 l2 l3 l4 σ) 26 [some (.inr (some 3)), none, some (.inr (some l2)), some (.inl l3), some (.inl l4)] [] σ) (l2 : Nat) (l3 : Int32) (l4 : Int32) (σ : ST) : AW wlX yX1_writeRow cX1_writeRow 5 none rmX1_writeRow emV (fX1_writeRow_B26 k26 l2 l3 l4 σ) 26 [some (.inr (some 3)), none, some (.inr (some l2)), some (.inl l3), some (.inl l4)] [] σ := by
  unfold fX1_writeRow_B26
  refine aw_iload (pc := 26) dX1_writeRow_26 rfl ?_
  refine aw_aload_n (pc := 28) dX1_writeRow_28 rfl rfl ?_
  refine aw_get (pc := 29) (v := .inl (σ.1 3 15)) foX1_64 (atX3 _) rfl dX1_writeRow_29 ?_
  refine aw_icmp_ge (pc := 32) (tgt := 65) dX1_writeRow_32 (by decide) (fun _ => ?_) (fun _ => ?_)
  · exact aw_ret_v (pc := 65) rfl rfl dX1_writeRow_65
  refine aw_iload_n (pc := 35) dX1_writeRow_35 rfl rfl ?_
  refine aw_iconst (pc := 36) (v := (-1)) dX1_writeRow_36 (by decide) ?_
  refine aw_icmp_eq (pc := 37) (tgt := 65) dX1_writeRow_37 (by decide) (fun _ => ?_) (fun _ => ?_)
  · exact aw_ret_v (pc := 65) rfl rfl dX1_writeRow_65
  refine aw_aload_n (pc := 40) dX1_writeRow_40 rfl rfl ?_
  refine aw_iload_n (pc := 41) dX1_writeRow_41 rfl rfl ?_
  refine aw_bipush (pc := 42) (v := 10) dX1_writeRow_42 (by decide) ?_
  refine aw_idiv (pc := 44) dX1_writeRow_44 (by decide) ?_
  refine aw_aload_n (pc := 45) dX1_writeRow_45 rfl rfl ?_
  refine aw_get (pc := 46) (v := .inr (some 19)) foX1_22 (atX3 _) rfl dX1_writeRow_46 ?_
  refine aw_iload_n (pc := 49) dX1_writeRow_49 rfl rfl ?_
  refine aw_iald' (pc := 50) (atX19 _) dX1_writeRow_50 ?_
  refine aw_istR (pc := 51) dX1_writeRow_51 (fun σ1 => ?_)
  refine aw_aload_n (pc := 52) dX1_writeRow_52 rfl rfl ?_
  refine aw_get (pc := 53) (v := .inr (some 23)) foX1_34 (atX3 _) rfl dX1_writeRow_53 ?_
  refine aw_iload_n (pc := 56) dX1_writeRow_56 rfl rfl ?_
  refine aw_iald' (pc := 57) (atX23 _) dX1_writeRow_57 ?_
  refine aw_stnB (pc := 58) (Lf := fun v2 => [some (.inr (some 3)), none, some (.inr (some l2)), some (.inl v2), some (.inl l4)]) dX1_writeRow_58 rfl (by decide) (fun _ => rfl) (fun v2 => ?_)
  refine aw_iincB (pc := 59) (v := 1) (Lf := fun v3 => [some (.inr (some 3)), none, some (.inr (some l2)), some (.inl v2), some (.inl v3)]) dX1_writeRow_59 rfl (by decide) (by decide) (fun _ => rfl) (fun v3 => ?_)
  refine aw_goto (pc := 62) (tgt := 26) dX1_writeRow_62 (by decide) ?_
  exact aw_wk (wk_same (wk_none (wk_same (wk_same (wk_same wk_nil))))) (hk26 l2 v2 v3 σ1)
noncomputable def fX1_writeRow_L26 (n : Nat) (l2 : Nat) (l3 : Int32) (l4 : Int32) (σ : ST) : Option (Unit × ST) := loopN (α := Nat × Int32 × Int32 × ST) (fun k a => fX1_writeRow_B26 (fun l2 l3 l4 σ => k (l2, l3, l4, σ)) a.1 a.2.1 a.2.2.1 a.2.2.2) n (l2, l3, l4, σ)
theorem xX1_writeRow_L26 (n : Nat) (l2 : Nat) (l3 : Int32) (l4 : Int32) (σ : ST) : AW wlX yX1_writeRow cX1_writeRow 5 none rmX1_writeRow emV (fX1_writeRow_L26 n l2 l3 l4 σ) 26 [some (.inr (some 3)), none, some (.inr (some l2)), some (.inl l3), some (.inl l4)] [] σ :=
  aw_loop (α := Nat × Int32 × Int32 × ST) (Lf := fun a => [some (.inr (some 3)), none, some (.inr (some (a.1))), some (.inl (a.2.1)), some (.inl (a.2.2.1))]) (sf := fun a => a.2.2.2) (fun k hk a => by
    obtain ⟨l2, l3, l4, σ⟩ := a
    exact xX1_writeRow_B26 (fun l2 l3 l4 σ => k (l2, l3, l4, σ)) (fun l2 l3 l4 σ => hk (l2, l3, l4, σ)) l2 l3 l4 σ) n (l2, l3, l4, σ)
noncomputable def fX1_writeRow_B2 (k2 : Int32 → Nat → Int32 → ST → Option (Unit × ST)) (l1 : Int32) (l2 : Nat) (l3 : Int32) (σ : ST) : Option (Unit × ST) :=
  if (σ.1 3 15) ≤ l3 then (fX1_writeRow_L26 FU l2 l1 0 σ) else (if (isRw σ l2 && ib l3 20) = true then bindv (stI σ l2 l3.toNatClampNeg (-5)) (fun σ4 => bindv (l3 + 1) (fun v5 => k2 l1 l2 v5 σ4)) else none)
set_option maxRecDepth 10000 in
theorem xX1_writeRow_B2 (k2 : Int32 → Nat → Int32 → ST → Option (Unit × ST)) (hk2 : ∀ (l1 : Int32) (l2 : Nat) (l3 : Int32) (σ : ST), AW wlX yX1_writeRow cX1_writeRow 5 none rmX1_writeRow emV (k2 l1 l2 l3 σ) 2 [some (.inr (some 3)), some (.inl l1), some (.inr (some l2)), some (.inl l3), none] [] σ) (l1 : Int32) (l2 : Nat) (l3 : Int32) (σ : ST) : AW wlX yX1_writeRow cX1_writeRow 5 none rmX1_writeRow emV (fX1_writeRow_B2 k2 l1 l2 l3 σ) 2 [some (.inr (some 3)), some (.inl l1), some (.inr (some l2)), some (.inl l3), none] [] σ := by
  unfold fX1_writeRow_B2
  refine aw_iload_n (pc := 2) dX1_writeRow_2 rfl rfl ?_
  refine aw_aload_n (pc := 3) dX1_writeRow_3 rfl rfl ?_
  refine aw_get (pc := 4) (v := .inl (σ.1 3 15)) foX1_64 (atX3 _) rfl dX1_writeRow_4 ?_
  refine aw_icmp_ge (pc := 7) (tgt := 21) dX1_writeRow_7 (by decide) (fun _ => ?_) (fun _ => ?_)
  · refine aw_iload_n (pc := 21) dX1_writeRow_21 rfl rfl ?_
    refine aw_stn (pc := 22) (L' := [some (.inr (some 3)), some (.inl l1), some (.inr (some l2)), some (.inl l1), none]) dX1_writeRow_22 rfl (by decide) rfl ?_
    refine aw_iconst (pc := 23) (v := 0) dX1_writeRow_23 (by decide) ?_
    refine aw_st (pc := 24) (L' := [some (.inr (some 3)), some (.inl l1), some (.inr (some l2)), some (.inl l1), some (.inl 0)]) dX1_writeRow_24 (by decide) rfl ?_
    exact aw_wk (wk_same (wk_none (wk_same (wk_same (wk_same wk_nil))))) (xX1_writeRow_L26 FU l2 l1 0 σ)
  refine aw_aload_n (pc := 10) dX1_writeRow_10 rfl rfl ?_
  refine aw_iload_n (pc := 11) dX1_writeRow_11 rfl rfl ?_
  refine aw_bipush (pc := 12) (v := (-5)) dX1_writeRow_12 (by decide) ?_
  refine aw_istR (pc := 14) dX1_writeRow_14 (fun σ4 => ?_)
  refine aw_iincB (pc := 15) (v := 1) (Lf := fun v5 => [some (.inr (some 3)), some (.inl l1), some (.inr (some l2)), some (.inl v5), none]) dX1_writeRow_15 rfl (by decide) (by decide) (fun _ => rfl) (fun v5 => ?_)
  refine aw_goto (pc := 18) (tgt := 2) dX1_writeRow_18 (by decide) ?_
  exact aw_wk (wk_same (wk_same (wk_same (wk_same (wk_none wk_nil))))) (hk2 l1 l2 v5 σ4)
noncomputable def fX1_writeRow_L2 (n : Nat) (l1 : Int32) (l2 : Nat) (l3 : Int32) (σ : ST) : Option (Unit × ST) := loopN (α := Int32 × Nat × Int32 × ST) (fun k a => fX1_writeRow_B2 (fun l1 l2 l3 σ => k (l1, l2, l3, σ)) a.1 a.2.1 a.2.2.1 a.2.2.2) n (l1, l2, l3, σ)
theorem xX1_writeRow_L2 (n : Nat) (l1 : Int32) (l2 : Nat) (l3 : Int32) (σ : ST) : AW wlX yX1_writeRow cX1_writeRow 5 none rmX1_writeRow emV (fX1_writeRow_L2 n l1 l2 l3 σ) 2 [some (.inr (some 3)), some (.inl l1), some (.inr (some l2)), some (.inl l3), none] [] σ :=
  aw_loop (α := Int32 × Nat × Int32 × ST) (Lf := fun a => [some (.inr (some 3)), some (.inl (a.1)), some (.inr (some (a.2.1))), some (.inl (a.2.2.1)), none]) (sf := fun a => a.2.2.2) (fun k hk a => by
    obtain ⟨l1, l2, l3, σ⟩ := a
    exact xX1_writeRow_B2 (fun l1 l2 l3 σ => k (l1, l2, l3, σ)) (fun l1 l2 l3 σ => hk (l1, l2, l3, σ)) l1 l2 l3 σ) n (l1, l2, l3, σ)
noncomputable def fX1_writeRow (a1 : Int32) (a2 : Nat) (σ : ST) : Option (Unit × ST) :=
  fX1_writeRow_L2 FU a1 a2 0 σ
set_option maxRecDepth 10000 in
theorem xX1_writeRow (a1 : Int32) (a2 : Nat) (σ : ST) : MS wlX yX1_writeRow cX1_writeRow 5 none rmX1_writeRow emV [.inr (some 3), .inl a1, .inr (some a2)] σ (fX1_writeRow a1 a2 σ) := by
  refine MS.of (by decide +kernel) (Nat.le_of_ble_eq_true rfl) ?_
  show AW wlX yX1_writeRow cX1_writeRow 5 none rmX1_writeRow emV (fX1_writeRow a1 a2 σ) 0 [some (.inr (some 3)), some (.inl a1), some (.inr (some a2)), none, none] [] σ
  unfold fX1_writeRow
  refine aw_iconst (pc := 0) (v := 0) dX1_writeRow_0 (by decide) ?_
  refine aw_stn (pc := 1) (L' := [some (.inr (some 3)), some (.inl a1), some (.inr (some a2)), some (.inl 0), none]) dX1_writeRow_1 rfl (by decide) rfl ?_
  exact aw_wk (wk_same (wk_same (wk_same (wk_same (wk_none wk_nil))))) (xX1_writeRow_L2 FU a1 a2 0 σ)
abbrev rmX1_countSame : Room := { frames := 0, cells := 0, slots := 0, locals := 0 }
noncomputable def fX1_countSame_J25 (l3 : Int32) (σ : ST) : Option (Int32 × ST) :=
  some (l3, σ)
set_option maxRecDepth 10000 in
theorem xX1_countSame_J25 (l3 : Int32) (σ : ST) : AW wlX yX1_countSame cX1_countSame 4 (some .int) rmX1_countSame emI (fX1_countSame_J25 l3 σ) 25 [none, none, none, some (.inl l3)] [] σ := by
  unfold fX1_countSame_J25
  refine aw_iload_n (pc := 25) dX1_countSame_25 rfl rfl ?_
  exact aw_ret_i (pc := 26) rfl rfl rfl dX1_countSame_26
noncomputable def fX1_countSame_B2 (k2 : Nat → Nat → Int32 → ST → Option (Int32 × ST)) (l1 : Nat) (l2 : Nat) (l3 : Int32) (σ : ST) : Option (Int32 × ST) :=
  if (σ.1 3 15) ≤ l3 then (fX1_countSame_J25 l3 σ) else (if (isRw σ l1 && ib l3 20) = true then if (isRw σ l2 && ib l3 20) = true then if (σ.1 l1 l3.toNatClampNeg) = (σ.1 l2 l3.toNatClampNeg) then (bindv (l3 + 1) (fun v1 => k2 l1 l2 v1 σ)) else (fX1_countSame_J25 l3 σ) else none else none)
set_option maxRecDepth 10000 in
theorem xX1_countSame_B2 (k2 : Nat → Nat → Int32 → ST → Option (Int32 × ST)) (hk2 : ∀ (l1 : Nat) (l2 : Nat) (l3 : Int32) (σ : ST), AW wlX yX1_countSame cX1_countSame 4 (some .int) rmX1_countSame emI (k2 l1 l2 l3 σ) 2 [some (.inr (some 3)), some (.inr (some l1)), some (.inr (some l2)), some (.inl l3)] [] σ) (l1 : Nat) (l2 : Nat) (l3 : Int32) (σ : ST) : AW wlX yX1_countSame cX1_countSame 4 (some .int) rmX1_countSame emI (fX1_countSame_B2 k2 l1 l2 l3 σ) 2 [some (.inr (some 3)), some (.inr (some l1)), some (.inr (some l2)), some (.inl l3)] [] σ := by
  unfold fX1_countSame_B2
  refine aw_iload_n (pc := 2) dX1_countSame_2 rfl rfl ?_
  refine aw_aload_n (pc := 3) dX1_countSame_3 rfl rfl ?_
  refine aw_get (pc := 4) (v := .inl (σ.1 3 15)) foX1_64 (atX3 _) rfl dX1_countSame_4 ?_
  refine aw_icmp_ge (pc := 7) (tgt := 25) dX1_countSame_7 (by decide) (fun _ => ?_) (fun _ => ?_)
  · exact aw_wk (wk_none (wk_none (wk_none (wk_same wk_nil)))) (xX1_countSame_J25 l3 σ)
  refine aw_aload_n (pc := 10) dX1_countSame_10 rfl rfl ?_
  refine aw_iload_n (pc := 11) dX1_countSame_11 rfl rfl ?_
  refine aw_ildR (pc := 12) dX1_countSame_12 ?_
  refine aw_aload_n (pc := 13) dX1_countSame_13 rfl rfl ?_
  refine aw_iload_n (pc := 14) dX1_countSame_14 rfl rfl ?_
  refine aw_ildR (pc := 15) dX1_countSame_15 ?_
  refine aw_icmp_ne (pc := 16) (tgt := 25) dX1_countSame_16 (by decide) (fun _ => ?_) (fun _ => ?_)
  · refine aw_iincB (pc := 19) (v := 1) (Lf := fun v1 => [some (.inr (some 3)), some (.inr (some l1)), some (.inr (some l2)), some (.inl v1)]) dX1_countSame_19 rfl (by decide) (by decide) (fun _ => rfl) (fun v1 => ?_)
    refine aw_goto (pc := 22) (tgt := 2) dX1_countSame_22 (by decide) ?_
    exact aw_wk (wk_same (wk_same (wk_same (wk_same wk_nil)))) (hk2 l1 l2 v1 σ)
  exact aw_wk (wk_none (wk_none (wk_none (wk_same wk_nil)))) (xX1_countSame_J25 l3 σ)
noncomputable def fX1_countSame_L2 (n : Nat) (l1 : Nat) (l2 : Nat) (l3 : Int32) (σ : ST) : Option (Int32 × ST) := loopN (α := Nat × Nat × Int32 × ST) (fun k a => fX1_countSame_B2 (fun l1 l2 l3 σ => k (l1, l2, l3, σ)) a.1 a.2.1 a.2.2.1 a.2.2.2) n (l1, l2, l3, σ)
theorem xX1_countSame_L2 (n : Nat) (l1 : Nat) (l2 : Nat) (l3 : Int32) (σ : ST) : AW wlX yX1_countSame cX1_countSame 4 (some .int) rmX1_countSame emI (fX1_countSame_L2 n l1 l2 l3 σ) 2 [some (.inr (some 3)), some (.inr (some l1)), some (.inr (some l2)), some (.inl l3)] [] σ :=
  aw_loop (α := Nat × Nat × Int32 × ST) (Lf := fun a => [some (.inr (some 3)), some (.inr (some (a.1))), some (.inr (some (a.2.1))), some (.inl (a.2.2.1))]) (sf := fun a => a.2.2.2) (fun k hk a => by
    obtain ⟨l1, l2, l3, σ⟩ := a
    exact xX1_countSame_B2 (fun l1 l2 l3 σ => k (l1, l2, l3, σ)) (fun l1 l2 l3 σ => hk (l1, l2, l3, σ)) l1 l2 l3 σ) n (l1, l2, l3, σ)
noncomputable def fX1_countSame (a1 : Nat) (a2 : Nat) (σ : ST) : Option (Int32 × ST) :=
  fX1_countSame_L2 FU a1 a2 0 σ
set_option maxRecDepth 10000 in
theorem xX1_countSame (a1 : Nat) (a2 : Nat) (σ : ST) : MS wlX yX1_countSame cX1_countSame 4 (some .int) rmX1_countSame emI [.inr (some 3), .inr (some a1), .inr (some a2)] σ (fX1_countSame a1 a2 σ) := by
  refine MS.of (by decide +kernel) (Nat.le_of_ble_eq_true rfl) ?_
  show AW wlX yX1_countSame cX1_countSame 4 (some .int) rmX1_countSame emI (fX1_countSame a1 a2 σ) 0 [some (.inr (some 3)), some (.inr (some a1)), some (.inr (some a2)), none] [] σ
  unfold fX1_countSame
  refine aw_iconst (pc := 0) (v := 0) dX1_countSame_0 (by decide) ?_
  refine aw_stn (pc := 1) (L' := [some (.inr (some 3)), some (.inr (some a1)), some (.inr (some a2)), some (.inl 0)]) dX1_countSame_1 rfl (by decide) rfl ?_
  exact aw_wk (wk_same (wk_same (wk_same (wk_same wk_nil)))) (xX1_countSame_L2 FU a1 a2 0 σ)
abbrev rmX1_isRowFirst : Room := { frames := 1, cells := 0, slots := 0, locals := 24 }
noncomputable def fX1_isRowFirst (a1 : Int32) (a2 : Int32) (σ : ST) : Option (Int32 × ST) :=
  cb (fX1_writeRow a1 24 σ) (fun r1 σ2 => cb (fX1_writeRow a2 25 σ2) (fun r3 σ4 => cb (fX1_countSame 24 25 σ4) (fun r5 σ6 => if (σ6.1 3 15) ≤ r5 then (some (0, σ6)) else (if ib r5 20 = true then if (σ6.1 24 r5.toNatClampNeg) = (-5) then (some (0, σ6)) else (if ib r5 20 = true then if (σ6.1 25 r5.toNatClampNeg) = (-5) then (some (1, σ6)) else (if ib r5 20 = true then if ib r5 20 = true then if (σ6.1 25 r5.toNatClampNeg) ≤ (σ6.1 24 r5.toNatClampNeg) then (some (0, σ6)) else (some (1, σ6)) else none else none) else none) else none))))
set_option maxRecDepth 10000 in
theorem xX1_isRowFirst (a1 : Int32) (a2 : Int32) (σ : ST) : MS wlX yX1_isRowFirst cX1_isRowFirst 4 (some .boolean) rmX1_isRowFirst emI [.inr (some 3), .inl a1, .inl a2] σ (fX1_isRowFirst a1 a2 σ) := by
  refine MS.of (by decide +kernel) (Nat.le_of_ble_eq_true rfl) ?_
  show AW wlX yX1_isRowFirst cX1_isRowFirst 4 (some .boolean) rmX1_isRowFirst emI (fX1_isRowFirst a1 a2 σ) 0 [some (.inr (some 3)), some (.inl a1), some (.inl a2), none] [] σ
  unfold fX1_isRowFirst
  refine aw_aload_n (pc := 0) dX1_isRowFirst_0 rfl rfl ?_
  refine aw_iload_n (pc := 1) dX1_isRowFirst_1 rfl rfl ?_
  refine aw_aload_n (pc := 2) dX1_isRowFirst_2 rfl rfl ?_
  refine aw_get (pc := 3) (v := .inr (some 24)) foX1_37 (atX3 _) rfl dX1_isRowFirst_3 ?_
  refine aw_cVV (pc := 6) (st := []) (xX1_writeRow a1 24 σ) (atX3 _) rfl ckX1_135 ⟨rfl, rfl, by decide, by decide⟩ (Nat.le_of_ble_eq_true rfl) dX1_isRowFirst_6 rfl (fun r1 σ2 => ?_)
  refine aw_aload_n (pc := 9) dX1_isRowFirst_9 rfl rfl ?_
  refine aw_iload_n (pc := 10) dX1_isRowFirst_10 rfl rfl ?_
  refine aw_aload_n (pc := 11) dX1_isRowFirst_11 rfl rfl ?_
  refine aw_get (pc := 12) (v := .inr (some 25)) foX1_40 (atX3 _) rfl dX1_isRowFirst_12 ?_
  refine aw_cVV (pc := 15) (st := []) (xX1_writeRow a2 25 σ2) (atX3 _) rfl ckX1_135 ⟨rfl, rfl, by decide, by decide⟩ (Nat.le_of_ble_eq_true rfl) dX1_isRowFirst_15 rfl (fun r3 σ4 => ?_)
  refine aw_aload_n (pc := 18) dX1_isRowFirst_18 rfl rfl ?_
  refine aw_aload_n (pc := 19) dX1_isRowFirst_19 rfl rfl ?_
  refine aw_get (pc := 20) (v := .inr (some 24)) foX1_37 (atX3 _) rfl dX1_isRowFirst_20 ?_
  refine aw_aload_n (pc := 23) dX1_isRowFirst_23 rfl rfl ?_
  refine aw_get (pc := 24) (v := .inr (some 25)) foX1_40 (atX3 _) rfl dX1_isRowFirst_24 ?_
  refine aw_cVI (pc := 27) (st := []) (xX1_countSame 24 25 σ4) (atX3 _) rfl ckX1_139 ⟨rfl, rfl, by decide, by decide⟩ (Nat.le_of_ble_eq_true rfl) dX1_isRowFirst_27 rfl (fun r5 σ6 => ?_)
  refine aw_stn (pc := 30) (L' := [some (.inr (some 3)), some (.inl a1), some (.inl a2), some (.inl r5)]) dX1_isRowFirst_30 rfl (by decide) rfl ?_
  refine aw_iload_n (pc := 31) dX1_isRowFirst_31 rfl rfl ?_
  refine aw_aload_n (pc := 32) dX1_isRowFirst_32 rfl rfl ?_
  refine aw_get (pc := 33) (v := .inl (σ6.1 3 15)) foX1_64 (atX3 _) rfl dX1_isRowFirst_33 ?_
  refine aw_icmp_ge (pc := 36) (tgt := 50) dX1_isRowFirst_36 (by decide) (fun _ => ?_) (fun _ => ?_)
  · refine aw_iconst (pc := 50) (v := 0) dX1_isRowFirst_50 (by decide) ?_
    exact aw_ret_i (pc := 51) rfl rfl rfl dX1_isRowFirst_51
  refine aw_aload_n (pc := 39) dX1_isRowFirst_39 rfl rfl ?_
  refine aw_get (pc := 40) (v := .inr (some 24)) foX1_37 (atX3 _) rfl dX1_isRowFirst_40 ?_
  refine aw_iload_n (pc := 43) dX1_isRowFirst_43 rfl rfl ?_
  refine aw_iald' (pc := 44) (atX24 _) dX1_isRowFirst_44 ?_
  refine aw_bipush (pc := 45) (v := (-5)) dX1_isRowFirst_45 (by decide) ?_
  refine aw_icmp_ne (pc := 47) (tgt := 52) dX1_isRowFirst_47 (by decide) (fun _ => ?_) (fun _ => ?_)
  · refine aw_iconst (pc := 50) (v := 0) dX1_isRowFirst_50 (by decide) ?_
    exact aw_ret_i (pc := 51) rfl rfl rfl dX1_isRowFirst_51
  refine aw_aload_n (pc := 52) dX1_isRowFirst_52 rfl rfl ?_
  refine aw_get (pc := 53) (v := .inr (some 25)) foX1_40 (atX3 _) rfl dX1_isRowFirst_53 ?_
  refine aw_iload_n (pc := 56) dX1_isRowFirst_56 rfl rfl ?_
  refine aw_iald' (pc := 57) (atX25 _) dX1_isRowFirst_57 ?_
  refine aw_bipush (pc := 58) (v := (-5)) dX1_isRowFirst_58 (by decide) ?_
  refine aw_icmp_eq (pc := 60) (tgt := 78) dX1_isRowFirst_60 (by decide) (fun _ => ?_) (fun _ => ?_)
  · refine aw_iconst (pc := 78) (v := 1) dX1_isRowFirst_78 (by decide) ?_
    refine aw_goto (pc := 79) (tgt := 83) dX1_isRowFirst_79 (by decide) ?_
    exact aw_ret_i (pc := 83) rfl rfl rfl dX1_isRowFirst_83
  refine aw_aload_n (pc := 63) dX1_isRowFirst_63 rfl rfl ?_
  refine aw_get (pc := 64) (v := .inr (some 24)) foX1_37 (atX3 _) rfl dX1_isRowFirst_64 ?_
  refine aw_iload_n (pc := 67) dX1_isRowFirst_67 rfl rfl ?_
  refine aw_iald' (pc := 68) (atX24 _) dX1_isRowFirst_68 ?_
  refine aw_aload_n (pc := 69) dX1_isRowFirst_69 rfl rfl ?_
  refine aw_get (pc := 70) (v := .inr (some 25)) foX1_40 (atX3 _) rfl dX1_isRowFirst_70 ?_
  refine aw_iload_n (pc := 73) dX1_isRowFirst_73 rfl rfl ?_
  refine aw_iald' (pc := 74) (atX25 _) dX1_isRowFirst_74 ?_
  refine aw_icmp_ge (pc := 75) (tgt := 82) dX1_isRowFirst_75 (by decide) (fun _ => ?_) (fun _ => ?_)
  · refine aw_iconst (pc := 82) (v := 0) dX1_isRowFirst_82 (by decide) ?_
    exact aw_ret_i (pc := 83) rfl rfl rfl dX1_isRowFirst_83
  refine aw_iconst (pc := 78) (v := 1) dX1_isRowFirst_78 (by decide) ?_
  refine aw_goto (pc := 79) (tgt := 83) dX1_isRowFirst_79 (by decide) ?_
  exact aw_ret_i (pc := 83) rfl rfl rfl dX1_isRowFirst_83
abbrev rmX1_findRowTo : Room := { frames := 4, cells := 0, slots := 0, locals := 101 }
noncomputable def fX1_findRowTo_J165 (k16 : Int32 → Int32 → Nat → Int32 → Int32 → Int32 → ST → Option (Unit × ST)) (k51 : Int32 → Int32 → Nat → Int32 → Int32 → Int32 → Int32 → Int32 → Int32 → ST → Option (Unit × ST)) (l1 : Int32) (l2 : Int32) (l3 : Nat) (l4 : Int32) (l5 : Int32) (l6 : Int32) (l7 : Int32) (l8 : Int32) (l9 : Int32) (σ : ST) : Option (Unit × ST) :=
  bindv (l9 + 1) (fun v13 => k51 l1 l2 l3 l4 l5 l6 l7 l8 v13 σ)
set_option maxRecDepth 10000 in
theorem xX1_findRowTo_J165 (k16 : Int32 → Int32 → Nat → Int32 → Int32 → Int32 → ST → Option (Unit × ST)) (k51 : Int32 → Int32 → Nat → Int32 → Int32 → Int32 → Int32 → Int32 → Int32 → ST → Option (Unit × ST)) (hk16 : ∀ (l1 : Int32) (l2 : Int32) (l3 : Nat) (l4 : Int32) (l5 : Int32) (l6 : Int32) (σ : ST), AW wlX yX1_findRowTo cX1_findRowTo 13 none rmX1_findRowTo emV (k16 l1 l2 l3 l4 l5 l6 σ) 16 [some (.inr (some 3)), some (.inl l1), some (.inl l2), some (.inr (some l3)), some (.inl l4), some (.inl l5), some (.inl l6), none, none, none, none, none, none] [] σ) (hk51 : ∀ (l1 : Int32) (l2 : Int32) (l3 : Nat) (l4 : Int32) (l5 : Int32) (l6 : Int32) (l7 : Int32) (l8 : Int32) (l9 : Int32) (σ : ST), AW wlX yX1_findRowTo cX1_findRowTo 13 none rmX1_findRowTo emV (k51 l1 l2 l3 l4 l5 l6 l7 l8 l9 σ) 51 [some (.inr (some 3)), some (.inl l1), some (.inl l2), some (.inr (some l3)), some (.inl l4), some (.inl l5), some (.inl l6), some (.inl l7), some (.inl l8), some (.inl l9), none, none, none] [] σ) (l1 : Int32) (l2 : Int32) (l3 : Nat) (l4 : Int32) (l5 : Int32) (l6 : Int32) (l7 : Int32) (l8 : Int32) (l9 : Int32) (σ : ST) : AW wlX yX1_findRowTo cX1_findRowTo 13 none rmX1_findRowTo emV (fX1_findRowTo_J165 k16 k51 l1 l2 l3 l4 l5 l6 l7 l8 l9 σ) 165 [some (.inr (some 3)), some (.inl l1), some (.inl l2), some (.inr (some l3)), some (.inl l4), some (.inl l5), some (.inl l6), some (.inl l7), some (.inl l8), some (.inl l9), none, none, none] [] σ := by
  unfold fX1_findRowTo_J165
  refine aw_iincB (pc := 165) (v := 1) (Lf := fun v13 => [some (.inr (some 3)), some (.inl l1), some (.inl l2), some (.inr (some l3)), some (.inl l4), some (.inl l5), some (.inl l6), some (.inl l7), some (.inl l8), some (.inl v13), none, none, none]) dX1_findRowTo_165 rfl (by decide) (by decide) (fun _ => rfl) (fun v13 => ?_)
  refine aw_goto (pc := 168) (tgt := 51) dX1_findRowTo_168 (by decide) ?_
  exact aw_wk (wk_same (wk_same (wk_same (wk_same (wk_same (wk_same (wk_same (wk_same (wk_same (wk_same (wk_none (wk_none (wk_none wk_nil))))))))))))) (hk51 l1 l2 l3 l4 l5 l6 l7 l8 v13 σ)
noncomputable def fX1_findRowTo_J157 (k16 : Int32 → Int32 → Nat → Int32 → Int32 → Int32 → ST → Option (Unit × ST)) (k51 : Int32 → Int32 → Nat → Int32 → Int32 → Int32 → Int32 → Int32 → Int32 → ST → Option (Unit × ST)) (l1 : Int32) (l2 : Int32) (l3 : Nat) (l6 : Int32) (l7 : Int32) (l8 : Int32) (l9 : Int32) (l10 : Int32) (l11 : Int32) (σ : ST) : Option (Unit × ST) :=
  fX1_findRowTo_J165 k16 k51 l1 l2 l3 l11 l10 l6 l7 l8 l9 σ
set_option maxRecDepth 10000 in
theorem xX1_findRowTo_J157 (k16 : Int32 → Int32 → Nat → Int32 → Int32 → Int32 → ST → Option (Unit × ST)) (k51 : Int32 → Int32 → Nat → Int32 → Int32 → Int32 → Int32 → Int32 → Int32 → ST → Option (Unit × ST)) (hk16 : ∀ (l1 : Int32) (l2 : Int32) (l3 : Nat) (l4 : Int32) (l5 : Int32) (l6 : Int32) (σ : ST), AW wlX yX1_findRowTo cX1_findRowTo 13 none rmX1_findRowTo emV (k16 l1 l2 l3 l4 l5 l6 σ) 16 [some (.inr (some 3)), some (.inl l1), some (.inl l2), some (.inr (some l3)), some (.inl l4), some (.inl l5), some (.inl l6), none, none, none, none, none, none] [] σ) (hk51 : ∀ (l1 : Int32) (l2 : Int32) (l3 : Nat) (l4 : Int32) (l5 : Int32) (l6 : Int32) (l7 : Int32) (l8 : Int32) (l9 : Int32) (σ : ST), AW wlX yX1_findRowTo cX1_findRowTo 13 none rmX1_findRowTo emV (k51 l1 l2 l3 l4 l5 l6 l7 l8 l9 σ) 51 [some (.inr (some 3)), some (.inl l1), some (.inl l2), some (.inr (some l3)), some (.inl l4), some (.inl l5), some (.inl l6), some (.inl l7), some (.inl l8), some (.inl l9), none, none, none] [] σ) (l1 : Int32) (l2 : Int32) (l3 : Nat) (l6 : Int32) (l7 : Int32) (l8 : Int32) (l9 : Int32) (l10 : Int32) (l11 : Int32) (σ : ST) : AW wlX yX1_findRowTo cX1_findRowTo 13 none rmX1_findRowTo emV (fX1_findRowTo_J157 k16 k51 l1 l2 l3 l6 l7 l8 l9 l10 l11 σ) 157 [some (.inr (some 3)), some (.inl l1), some (.inl l2), some (.inr (some l3)), none, none, some (.inl l6), some (.inl l7), some (.inl l8), some (.inl l9), some (.inl l10), some (.inl l11), none] [] σ := by
  unfold fX1_findRowTo_J157
  refine aw_iload (pc := 157) dX1_findRowTo_157 rfl ?_
  refine aw_st (pc := 159) (L' := [some (.inr (some 3)), some (.inl l1), some (.inl l2), some (.inr (some l3)), some (.inl l11), none, some (.inl l6), some (.inl l7), some (.inl l8), some (.inl l9), some (.inl l10), some (.inl l11), none]) dX1_findRowTo_159 (by decide) rfl ?_
  refine aw_iload (pc := 161) dX1_findRowTo_161 rfl ?_
  refine aw_st (pc := 163) (L' := [some (.inr (some 3)), some (.inl l1), some (.inl l2), some (.inr (some l3)), some (.inl l11), some (.inl l10), some (.inl l6), some (.inl l7), some (.inl l8), some (.inl l9), some (.inl l10), some (.inl l11), none]) dX1_findRowTo_163 (by decide) rfl ?_
  exact aw_wk (wk_same (wk_same (wk_same (wk_same (wk_same (wk_same (wk_same (wk_same (wk_same (wk_same (wk_none (wk_none (wk_none wk_nil))))))))))))) (xX1_findRowTo_J165 k16 k51 hk16 hk51 l1 l2 l3 l11 l10 l6 l7 l8 l9 σ)
noncomputable def fX1_findRowTo_J116 (k16 : Int32 → Int32 → Nat → Int32 → Int32 → Int32 → ST → Option (Unit × ST)) (k51 : Int32 → Int32 → Nat → Int32 → Int32 → Int32 → Int32 → Int32 → Int32 → ST → Option (Unit × ST)) (l1 : Int32) (l2 : Int32) (l3 : Nat) (l4 : Int32) (l5 : Int32) (l6 : Int32) (l7 : Int32) (l8 : Int32) (l9 : Int32) (l10 : Int32) (l11 : Int32) (s0 : Int32) (σ : ST) : Option (Unit × ST) :=
  if s0 < 0 then (fX1_findRowTo_J165 k16 k51 l1 l2 l3 l4 l5 l6 l7 l8 l9 σ) else (bindv (l11 + (s0 / 4)) (fun v14 => if v14 < l4 then (fX1_findRowTo_J157 k16 k51 l1 l2 l3 l6 l7 l8 l9 l10 v14 σ) else (if v14 = l4 then (cb (fX1_isRowFirst l10 l5 σ) (fun r15 σ16 => if r15 = 0 then (fX1_findRowTo_J165 k16 k51 l1 l2 l3 l4 l5 l6 l7 l8 l9 σ16) else (fX1_findRowTo_J157 k16 k51 l1 l2 l3 l6 l7 l8 l9 l10 v14 σ16))) else (fX1_findRowTo_J165 k16 k51 l1 l2 l3 l4 l5 l6 l7 l8 l9 σ))))
set_option maxRecDepth 10000 in
theorem xX1_findRowTo_J116 (k16 : Int32 → Int32 → Nat → Int32 → Int32 → Int32 → ST → Option (Unit × ST)) (k51 : Int32 → Int32 → Nat → Int32 → Int32 → Int32 → Int32 → Int32 → Int32 → ST → Option (Unit × ST)) (hk16 : ∀ (l1 : Int32) (l2 : Int32) (l3 : Nat) (l4 : Int32) (l5 : Int32) (l6 : Int32) (σ : ST), AW wlX yX1_findRowTo cX1_findRowTo 13 none rmX1_findRowTo emV (k16 l1 l2 l3 l4 l5 l6 σ) 16 [some (.inr (some 3)), some (.inl l1), some (.inl l2), some (.inr (some l3)), some (.inl l4), some (.inl l5), some (.inl l6), none, none, none, none, none, none] [] σ) (hk51 : ∀ (l1 : Int32) (l2 : Int32) (l3 : Nat) (l4 : Int32) (l5 : Int32) (l6 : Int32) (l7 : Int32) (l8 : Int32) (l9 : Int32) (σ : ST), AW wlX yX1_findRowTo cX1_findRowTo 13 none rmX1_findRowTo emV (k51 l1 l2 l3 l4 l5 l6 l7 l8 l9 σ) 51 [some (.inr (some 3)), some (.inl l1), some (.inl l2), some (.inr (some l3)), some (.inl l4), some (.inl l5), some (.inl l6), some (.inl l7), some (.inl l8), some (.inl l9), none, none, none] [] σ) (l1 : Int32) (l2 : Int32) (l3 : Nat) (l4 : Int32) (l5 : Int32) (l6 : Int32) (l7 : Int32) (l8 : Int32) (l9 : Int32) (l10 : Int32) (l11 : Int32) (s0 : Int32) (σ : ST) : AW wlX yX1_findRowTo cX1_findRowTo 13 none rmX1_findRowTo emV (fX1_findRowTo_J116 k16 k51 l1 l2 l3 l4 l5 l6 l7 l8 l9 l10 l11 s0 σ) 116 [some (.inr (some 3)), some (.inl l1), some (.inl l2), some (.inr (some l3)), some (.inl l4), some (.inl l5), some (.inl l6), some (.inl l7), some (.inl l8), some (.inl l9), some (.inl l10), some (.inl l11), none] [.inl s0] σ := by
  unfold fX1_findRowTo_J116
  refine aw_st (pc := 116) (L' := [some (.inr (some 3)), some (.inl l1), some (.inl l2), some (.inr (some l3)), some (.inl l4), some (.inl l5), some (.inl l6), some (.inl l7), some (.inl l8), some (.inl l9), some (.inl l10), some (.inl l11), some (.inl s0)]) dX1_findRowTo_116 (by decide) rfl ?_
  refine aw_iload (pc := 118) dX1_findRowTo_118 rfl ?_
  refine aw_if_lt (pc := 120) (tgt := 165) dX1_findRowTo_120 (by decide) (fun _ => ?_) (fun _ => ?_)
  · exact aw_wk (wk_same (wk_same (wk_same (wk_same (wk_same (wk_same (wk_same (wk_same (wk_same (wk_same (wk_none (wk_none (wk_none wk_nil))))))))))))) (xX1_findRowTo_J165 k16 k51 hk16 hk51 l1 l2 l3 l4 l5 l6 l7 l8 l9 σ)
  refine aw_iload (pc := 123) dX1_findRowTo_123 rfl ?_
  refine aw_iload (pc := 125) dX1_findRowTo_125 rfl ?_
  refine aw_iconst (pc := 127) (v := 4) dX1_findRowTo_127 (by decide) ?_
  refine aw_idiv (pc := 128) dX1_findRowTo_128 (by decide) ?_
  refine aw_iadd (pc := 129) dX1_findRowTo_129 ?_
  refine aw_stB (pc := 130) (Lf := fun v14 => [some (.inr (some 3)), some (.inl l1), some (.inl l2), some (.inr (some l3)), some (.inl l4), some (.inl l5), some (.inl l6), some (.inl l7), some (.inl l8), some (.inl l9), some (.inl l10), some (.inl v14), some (.inl s0)]) dX1_findRowTo_130 (by decide) (fun _ => rfl) (fun v14 => ?_)
  refine aw_iload (pc := 132) dX1_findRowTo_132 rfl ?_
  refine aw_iload (pc := 134) dX1_findRowTo_134 rfl ?_
  refine aw_icmp_lt (pc := 136) (tgt := 157) dX1_findRowTo_136 (by decide) (fun _ => ?_) (fun _ => ?_)
  · exact aw_wk (wk_same (wk_same (wk_same (wk_same (wk_none (wk_none (wk_same (wk_same (wk_same (wk_same (wk_same (wk_same (wk_none wk_nil))))))))))))) (xX1_findRowTo_J157 k16 k51 hk16 hk51 l1 l2 l3 l6 l7 l8 l9 l10 v14 σ)
  refine aw_iload (pc := 139) dX1_findRowTo_139 rfl ?_
  refine aw_iload (pc := 141) dX1_findRowTo_141 rfl ?_
  refine aw_icmp_ne (pc := 143) (tgt := 165) dX1_findRowTo_143 (by decide) (fun _ => ?_) (fun _ => ?_)
  · refine aw_aload_n (pc := 146) dX1_findRowTo_146 rfl rfl ?_
    refine aw_iload (pc := 147) dX1_findRowTo_147 rfl ?_
    refine aw_iload (pc := 149) dX1_findRowTo_149 rfl ?_
    refine aw_cVI (pc := 151) (st := []) (xX1_isRowFirst l10 l5 σ) (atX3 _) rfl ckX1_121 ⟨rfl, rfl, by decide, by decide⟩ (Nat.le_of_ble_eq_true rfl) dX1_findRowTo_151 rfl (fun r15 σ16 => ?_)
    refine aw_if_eq (pc := 154) (tgt := 165) dX1_findRowTo_154 (by decide) (fun _ => ?_) (fun _ => ?_)
    · exact aw_wk (wk_same (wk_same (wk_same (wk_same (wk_same (wk_same (wk_same (wk_same (wk_same (wk_same (wk_none (wk_none (wk_none wk_nil))))))))))))) (xX1_findRowTo_J165 k16 k51 hk16 hk51 l1 l2 l3 l4 l5 l6 l7 l8 l9 σ16)
    exact aw_wk (wk_same (wk_same (wk_same (wk_same (wk_none (wk_none (wk_same (wk_same (wk_same (wk_same (wk_same (wk_same (wk_none wk_nil))))))))))))) (xX1_findRowTo_J157 k16 k51 hk16 hk51 l1 l2 l3 l6 l7 l8 l9 l10 v14 σ16)
  exact aw_wk (wk_same (wk_same (wk_same (wk_same (wk_same (wk_same (wk_same (wk_same (wk_same (wk_same (wk_none (wk_none (wk_none wk_nil))))))))))))) (xX1_findRowTo_J165 k16 k51 hk16 hk51 l1 l2 l3 l4 l5 l6 l7 l8 l9 σ)
noncomputable def fX1_findRowTo_B51 (k16 : Int32 → Int32 → Nat → Int32 → Int32 → Int32 → ST → Option (Unit × ST)) (k51 : Int32 → Int32 → Nat → Int32 → Int32 → Int32 → Int32 → Int32 → Int32 → ST → Option (Unit × ST)) (l1 : Int32) (l2 : Int32) (l3 : Nat) (l4 : Int32) (l5 : Int32) (l6 : Int32) (l7 : Int32) (l8 : Int32) (l9 : Int32) (σ : ST) : Option (Unit × ST) :=
  if ib l6 20 = true then if (σ.1 18 l6.toNatClampNeg) ≤ l9 then (bindv (l6 + (-1)) (fun v8 => k16 l1 l2 l3 l4 l5 v8 σ)) else (bindv ((l6 * 10) + l9) (fun v9 => if ib v9 200 = true then bindv ((σ.1 22 v9.toNatClampNeg) + l7) (fun v10 => if v10 ≤ l4 then (if ib v9 200 = true then if ib l2 200 = true then cb (fX1_legLength (σ.1 19 v9.toNatClampNeg) (σ.1 19 l2.toNatClampNeg) l8 σ) (fun r11 σ12 => fX1_findRowTo_J116 k16 k51 l1 l2 l3 l4 l5 l6 l7 l8 l9 v9 v10 r11 σ12) else none else none) else (fX1_findRowTo_J116 k16 k51 l1 l2 l3 l4 l5 l6 l7 l8 l9 v9 v10 (-4) σ)) else none)) else none
set_option maxRecDepth 10000 in
theorem xX1_findRowTo_B51 (k16 : Int32 → Int32 → Nat → Int32 → Int32 → Int32 → ST → Option (Unit × ST)) (k51 : Int32 → Int32 → Nat → Int32 → Int32 → Int32 → Int32 → Int32 → Int32 → ST → Option (Unit × ST)) (hk16 : ∀ (l1 : Int32) (l2 : Int32) (l3 : Nat) (l4 : Int32) (l5 : Int32) (l6 : Int32) (σ : ST), AW wlX yX1_findRowTo cX1_findRowTo 13 none rmX1_findRowTo emV (k16 l1 l2 l3 l4 l5 l6 σ) 16 [some (.inr (some 3)), some (.inl l1), some (.inl l2), some (.inr (some l3)), some (.inl l4), some (.inl l5), some (.inl l6), none, none, none, none, none, none] [] σ) (hk51 : ∀ (l1 : Int32) (l2 : Int32) (l3 : Nat) (l4 : Int32) (l5 : Int32) (l6 : Int32) (l7 : Int32) (l8 : Int32) (l9 : Int32) (σ : ST), AW wlX yX1_findRowTo cX1_findRowTo 13 none rmX1_findRowTo emV (k51 l1 l2 l3 l4 l5 l6 l7 l8 l9 σ) 51 [some (.inr (some 3)), some (.inl l1), some (.inl l2), some (.inr (some l3)), some (.inl l4), some (.inl l5), some (.inl l6), some (.inl l7), some (.inl l8), some (.inl l9), none, none, none] [] σ) (l1 : Int32) (l2 : Int32) (l3 : Nat) (l4 : Int32) (l5 : Int32) (l6 : Int32) (l7 : Int32) (l8 : Int32) (l9 : Int32) (σ : ST) : AW wlX yX1_findRowTo cX1_findRowTo 13 none rmX1_findRowTo emV (fX1_findRowTo_B51 k16 k51 l1 l2 l3 l4 l5 l6 l7 l8 l9 σ) 51 [some (.inr (some 3)), some (.inl l1), some (.inl l2), some (.inr (some l3)), some (.inl l4), some (.inl l5), some (.inl l6), some (.inl l7), some (.inl l8), some (.inl l9), none, none, none] [] σ := by
  unfold fX1_findRowTo_B51
  refine aw_iload (pc := 51) dX1_findRowTo_51 rfl ?_
  refine aw_aload_n (pc := 53) dX1_findRowTo_53 rfl rfl ?_
  refine aw_get (pc := 54) (v := .inr (some 18)) foX1_18 (atX3 _) rfl dX1_findRowTo_54 ?_
  refine aw_iload (pc := 57) dX1_findRowTo_57 rfl ?_
  refine aw_iald' (pc := 59) (atX18 _) dX1_findRowTo_59 ?_
  refine aw_icmp_ge (pc := 60) (tgt := 171) dX1_findRowTo_60 (by decide) (fun _ => ?_) (fun _ => ?_)
  · refine aw_iincB (pc := 171) (v := (-1)) (Lf := fun v8 => [some (.inr (some 3)), some (.inl l1), some (.inl l2), some (.inr (some l3)), some (.inl l4), some (.inl l5), some (.inl v8), some (.inl l7), some (.inl l8), some (.inl l9), none, none, none]) dX1_findRowTo_171 rfl (by decide) (by decide) (fun _ => rfl) (fun v8 => ?_)
    refine aw_goto (pc := 174) (tgt := 16) dX1_findRowTo_174 (by decide) ?_
    exact aw_wk (wk_same (wk_same (wk_same (wk_same (wk_same (wk_same (wk_same (wk_none (wk_none (wk_none (wk_none (wk_none (wk_none wk_nil))))))))))))) (hk16 l1 l2 l3 l4 l5 v8 σ)
  refine aw_iload (pc := 63) dX1_findRowTo_63 rfl ?_
  refine aw_bipush (pc := 65) (v := 10) dX1_findRowTo_65 (by decide) ?_
  refine aw_imul (pc := 67) dX1_findRowTo_67 ?_
  refine aw_iload (pc := 68) dX1_findRowTo_68 rfl ?_
  refine aw_iadd (pc := 70) dX1_findRowTo_70 ?_
  refine aw_stB (pc := 71) (Lf := fun v9 => [some (.inr (some 3)), some (.inl l1), some (.inl l2), some (.inr (some l3)), some (.inl l4), some (.inl l5), some (.inl l6), some (.inl l7), some (.inl l8), some (.inl l9), some (.inl v9), none, none]) dX1_findRowTo_71 (by decide) (fun _ => rfl) (fun v9 => ?_)
  refine aw_aload_n (pc := 73) dX1_findRowTo_73 rfl rfl ?_
  refine aw_get (pc := 74) (v := .inr (some 22)) foX1_31 (atX3 _) rfl dX1_findRowTo_74 ?_
  refine aw_iload (pc := 77) dX1_findRowTo_77 rfl ?_
  refine aw_iald' (pc := 79) (atX22 _) dX1_findRowTo_79 ?_
  refine aw_iload (pc := 80) dX1_findRowTo_80 rfl ?_
  refine aw_iadd (pc := 82) dX1_findRowTo_82 ?_
  refine aw_stB (pc := 83) (Lf := fun v10 => [some (.inr (some 3)), some (.inl l1), some (.inl l2), some (.inr (some l3)), some (.inl l4), some (.inl l5), some (.inl l6), some (.inl l7), some (.inl l8), some (.inl l9), some (.inl v9), some (.inl v10), none]) dX1_findRowTo_83 (by decide) (fun _ => rfl) (fun v10 => ?_)
  refine aw_iload (pc := 85) dX1_findRowTo_85 rfl ?_
  refine aw_iload (pc := 87) dX1_findRowTo_87 rfl ?_
  refine aw_icmp_le (pc := 89) (tgt := 97) dX1_findRowTo_89 (by decide) (fun _ => ?_) (fun _ => ?_)
  · refine aw_aload_n (pc := 97) dX1_findRowTo_97 rfl rfl ?_
    refine aw_aload_n (pc := 98) dX1_findRowTo_98 rfl rfl ?_
    refine aw_get (pc := 99) (v := .inr (some 19)) foX1_22 (atX3 _) rfl dX1_findRowTo_99 ?_
    refine aw_iload (pc := 102) dX1_findRowTo_102 rfl ?_
    refine aw_iald' (pc := 104) (atX19 _) dX1_findRowTo_104 ?_
    refine aw_aload_n (pc := 105) dX1_findRowTo_105 rfl rfl ?_
    refine aw_get (pc := 106) (v := .inr (some 19)) foX1_22 (atX3 _) rfl dX1_findRowTo_106 ?_
    refine aw_iload_n (pc := 109) dX1_findRowTo_109 rfl rfl ?_
    refine aw_iald' (pc := 110) (atX19 _) dX1_findRowTo_110 ?_
    refine aw_iload (pc := 111) dX1_findRowTo_111 rfl ?_
    refine aw_cVI (pc := 113) (st := []) (xX1_legLength (σ.1 19 v9.toNatClampNeg) (σ.1 19 l2.toNatClampNeg) l8 σ) (atX3 _) rfl ckX1_118 ⟨rfl, rfl, by decide, by decide⟩ (Nat.le_of_ble_eq_true rfl) dX1_findRowTo_113 rfl (fun r11 σ12 => ?_)
    exact aw_wk (wk_same (wk_same (wk_same (wk_same (wk_same (wk_same (wk_same (wk_same (wk_same (wk_same (wk_same (wk_same (wk_none wk_nil))))))))))))) (xX1_findRowTo_J116 k16 k51 hk16 hk51 l1 l2 l3 l4 l5 l6 l7 l8 l9 v9 v10 r11 σ12)
  refine aw_bipush (pc := 92) (v := (-4)) dX1_findRowTo_92 (by decide) ?_
  refine aw_goto (pc := 94) (tgt := 116) dX1_findRowTo_94 (by decide) ?_
  exact aw_wk (wk_same (wk_same (wk_same (wk_same (wk_same (wk_same (wk_same (wk_same (wk_same (wk_same (wk_same (wk_same (wk_none wk_nil))))))))))))) (xX1_findRowTo_J116 k16 k51 hk16 hk51 l1 l2 l3 l4 l5 l6 l7 l8 l9 v9 v10 (-4) σ)
noncomputable def fX1_findRowTo_L51 (k16 : Int32 → Int32 → Nat → Int32 → Int32 → Int32 → ST → Option (Unit × ST)) (n : Nat) (l1 : Int32) (l2 : Int32) (l3 : Nat) (l4 : Int32) (l5 : Int32) (l6 : Int32) (l7 : Int32) (l8 : Int32) (l9 : Int32) (σ : ST) : Option (Unit × ST) := loopN (α := Int32 × Int32 × Nat × Int32 × Int32 × Int32 × Int32 × Int32 × Int32 × ST) (fun k a => fX1_findRowTo_B51 k16 (fun l1 l2 l3 l4 l5 l6 l7 l8 l9 σ => k (l1, l2, l3, l4, l5, l6, l7, l8, l9, σ)) a.1 a.2.1 a.2.2.1 a.2.2.2.1 a.2.2.2.2.1 a.2.2.2.2.2.1 a.2.2.2.2.2.2.1 a.2.2.2.2.2.2.2.1 a.2.2.2.2.2.2.2.2.1 a.2.2.2.2.2.2.2.2.2) n (l1, l2, l3, l4, l5, l6, l7, l8, l9, σ)
theorem xX1_findRowTo_L51 (k16 : Int32 → Int32 → Nat → Int32 → Int32 → Int32 → ST → Option (Unit × ST)) (hk16 : ∀ (l1 : Int32) (l2 : Int32) (l3 : Nat) (l4 : Int32) (l5 : Int32) (l6 : Int32) (σ : ST), AW wlX yX1_findRowTo cX1_findRowTo 13 none rmX1_findRowTo emV (k16 l1 l2 l3 l4 l5 l6 σ) 16 [some (.inr (some 3)), some (.inl l1), some (.inl l2), some (.inr (some l3)), some (.inl l4), some (.inl l5), some (.inl l6), none, none, none, none, none, none] [] σ) (n : Nat) (l1 : Int32) (l2 : Int32) (l3 : Nat) (l4 : Int32) (l5 : Int32) (l6 : Int32) (l7 : Int32) (l8 : Int32) (l9 : Int32) (σ : ST) : AW wlX yX1_findRowTo cX1_findRowTo 13 none rmX1_findRowTo emV (fX1_findRowTo_L51 k16 n l1 l2 l3 l4 l5 l6 l7 l8 l9 σ) 51 [some (.inr (some 3)), some (.inl l1), some (.inl l2), some (.inr (some l3)), some (.inl l4), some (.inl l5), some (.inl l6), some (.inl l7), some (.inl l8), some (.inl l9), none, none, none] [] σ :=
  aw_loop (α := Int32 × Int32 × Nat × Int32 × Int32 × Int32 × Int32 × Int32 × Int32 × ST) (Lf := fun a => [some (.inr (some 3)), some (.inl (a.1)), some (.inl (a.2.1)), some (.inr (some (a.2.2.1))), some (.inl (a.2.2.2.1)), some (.inl (a.2.2.2.2.1)), some (.inl (a.2.2.2.2.2.1)), some (.inl (a.2.2.2.2.2.2.1)), some (.inl (a.2.2.2.2.2.2.2.1)), some (.inl (a.2.2.2.2.2.2.2.2.1)), none, none, none]) (sf := fun a => a.2.2.2.2.2.2.2.2.2) (fun k hk a => by
    obtain ⟨l1, l2, l3, l4, l5, l6, l7, l8, l9, σ⟩ := a
    exact xX1_findRowTo_B51 k16 (fun l1 l2 l3 l4 l5 l6 l7 l8 l9 σ => k (l1, l2, l3, l4, l5, l6, l7, l8, l9, σ)) hk16 (fun l1 l2 l3 l4 l5 l6 l7 l8 l9 σ => hk (l1, l2, l3, l4, l5, l6, l7, l8, l9, σ)) l1 l2 l3 l4 l5 l6 l7 l8 l9 σ) n (l1, l2, l3, l4, l5, l6, l7, l8, l9, σ)
noncomputable def fX1_findRowTo_B16 (k16 : Int32 → Int32 → Nat → Int32 → Int32 → Int32 → ST → Option (Unit × ST)) (l1 : Int32) (l2 : Int32) (l3 : Nat) (l4 : Int32) (l5 : Int32) (l6 : Int32) (σ : ST) : Option (Unit × ST) :=
  if l6 < 0 then (if ib l2 200 = true then if ib l2 200 = true then bindv (stI σ 22 l2.toNatClampNeg (l4 + (σ.1 21 l2.toNatClampNeg))) (fun σ3 => if ib l2 200 = true then bindv (stI σ3 23 l2.toNatClampNeg l5) (fun σ4 => some ((), σ4)) else none) else none else none) else (bindv ((σ.1 3 1) * ((l1 - l6) - 1)) (fun v5 => if (isRw σ l3 && ib l1 20) = true then if (isRw σ l3 && ib l6 20) = true then cb (fX1_longestLeg ((σ.1 l3 l1.toNatClampNeg) - (σ.1 l3 l6.toNatClampNeg)) σ) (fun r6 σ7 => fX1_findRowTo_L51 k16 FU l1 l2 l3 l4 l5 l6 v5 r6 0 σ7) else none else none))
set_option maxRecDepth 10000 in
theorem xX1_findRowTo_B16 (k16 : Int32 → Int32 → Nat → Int32 → Int32 → Int32 → ST → Option (Unit × ST)) (hk16 : ∀ (l1 : Int32) (l2 : Int32) (l3 : Nat) (l4 : Int32) (l5 : Int32) (l6 : Int32) (σ : ST), AW wlX yX1_findRowTo cX1_findRowTo 13 none rmX1_findRowTo emV (k16 l1 l2 l3 l4 l5 l6 σ) 16 [some (.inr (some 3)), some (.inl l1), some (.inl l2), some (.inr (some l3)), some (.inl l4), some (.inl l5), some (.inl l6), none, none, none, none, none, none] [] σ) (l1 : Int32) (l2 : Int32) (l3 : Nat) (l4 : Int32) (l5 : Int32) (l6 : Int32) (σ : ST) : AW wlX yX1_findRowTo cX1_findRowTo 13 none rmX1_findRowTo emV (fX1_findRowTo_B16 k16 l1 l2 l3 l4 l5 l6 σ) 16 [some (.inr (some 3)), some (.inl l1), some (.inl l2), some (.inr (some l3)), some (.inl l4), some (.inl l5), some (.inl l6), none, none, none, none, none, none] [] σ := by
  unfold fX1_findRowTo_B16
  refine aw_iload (pc := 16) dX1_findRowTo_16 rfl ?_
  refine aw_if_lt (pc := 18) (tgt := 177) dX1_findRowTo_18 (by decide) (fun _ => ?_) (fun _ => ?_)
  · refine aw_aload_n (pc := 177) dX1_findRowTo_177 rfl rfl ?_
    refine aw_get (pc := 178) (v := .inr (some 22)) foX1_31 (atX3 _) rfl dX1_findRowTo_178 ?_
    refine aw_iload_n (pc := 181) dX1_findRowTo_181 rfl rfl ?_
    refine aw_iload (pc := 182) dX1_findRowTo_182 rfl ?_
    refine aw_aload_n (pc := 184) dX1_findRowTo_184 rfl rfl ?_
    refine aw_get (pc := 185) (v := .inr (some 21)) foX1_28 (atX3 _) rfl dX1_findRowTo_185 ?_
    refine aw_iload_n (pc := 188) dX1_findRowTo_188 rfl rfl ?_
    refine aw_iald' (pc := 189) (atX21 _) dX1_findRowTo_189 ?_
    refine aw_iadd (pc := 190) dX1_findRowTo_190 ?_
    refine aw_iastB (pc := 191) (atX22 _) (stX22 _ _ _) dX1_findRowTo_191 (fun σ3 => ?_)
    refine aw_aload_n (pc := 192) dX1_findRowTo_192 rfl rfl ?_
    refine aw_get (pc := 193) (v := .inr (some 23)) foX1_34 (atX3 _) rfl dX1_findRowTo_193 ?_
    refine aw_iload_n (pc := 196) dX1_findRowTo_196 rfl rfl ?_
    refine aw_iload (pc := 197) dX1_findRowTo_197 rfl ?_
    refine aw_iastB (pc := 199) (atX23 _) (stX23 _ _ _) dX1_findRowTo_199 (fun σ4 => ?_)
    exact aw_ret_v (pc := 200) rfl rfl dX1_findRowTo_200
  refine aw_aload_n (pc := 21) dX1_findRowTo_21 rfl rfl ?_
  refine aw_get (pc := 22) (v := .inl (σ.1 3 1)) foX1_15 (atX3 _) rfl dX1_findRowTo_22 ?_
  refine aw_iload_n (pc := 25) dX1_findRowTo_25 rfl rfl ?_
  refine aw_iload (pc := 26) dX1_findRowTo_26 rfl ?_
  refine aw_isub (pc := 28) dX1_findRowTo_28 ?_
  refine aw_iconst (pc := 29) (v := 1) dX1_findRowTo_29 (by decide) ?_
  refine aw_isub (pc := 30) dX1_findRowTo_30 ?_
  refine aw_imul (pc := 31) dX1_findRowTo_31 ?_
  refine aw_stB (pc := 32) (Lf := fun v5 => [some (.inr (some 3)), some (.inl l1), some (.inl l2), some (.inr (some l3)), some (.inl l4), some (.inl l5), some (.inl l6), some (.inl v5), none, none, none, none, none]) dX1_findRowTo_32 (by decide) (fun _ => rfl) (fun v5 => ?_)
  refine aw_aload_n (pc := 34) dX1_findRowTo_34 rfl rfl ?_
  refine aw_aload_n (pc := 35) dX1_findRowTo_35 rfl rfl ?_
  refine aw_iload_n (pc := 36) dX1_findRowTo_36 rfl rfl ?_
  refine aw_ildR (pc := 37) dX1_findRowTo_37 ?_
  refine aw_aload_n (pc := 38) dX1_findRowTo_38 rfl rfl ?_
  refine aw_iload (pc := 39) dX1_findRowTo_39 rfl ?_
  refine aw_ildR (pc := 41) dX1_findRowTo_41 ?_
  refine aw_isub (pc := 42) dX1_findRowTo_42 ?_
  refine aw_cVI (pc := 43) (st := []) (xX1_longestLeg ((σ.1 l3 l1.toNatClampNeg) - (σ.1 l3 l6.toNatClampNeg)) σ) (atX3 _) rfl ckX1_115 ⟨rfl, rfl, by decide, by decide⟩ (Nat.le_of_ble_eq_true rfl) dX1_findRowTo_43 rfl (fun r6 σ7 => ?_)
  refine aw_st (pc := 46) (L' := [some (.inr (some 3)), some (.inl l1), some (.inl l2), some (.inr (some l3)), some (.inl l4), some (.inl l5), some (.inl l6), some (.inl v5), some (.inl r6), none, none, none, none]) dX1_findRowTo_46 (by decide) rfl ?_
  refine aw_iconst (pc := 48) (v := 0) dX1_findRowTo_48 (by decide) ?_
  refine aw_st (pc := 49) (L' := [some (.inr (some 3)), some (.inl l1), some (.inl l2), some (.inr (some l3)), some (.inl l4), some (.inl l5), some (.inl l6), some (.inl v5), some (.inl r6), some (.inl 0), none, none, none]) dX1_findRowTo_49 (by decide) rfl ?_
  exact aw_wk (wk_same (wk_same (wk_same (wk_same (wk_same (wk_same (wk_same (wk_same (wk_same (wk_same (wk_none (wk_none (wk_none wk_nil))))))))))))) (xX1_findRowTo_L51 k16 hk16 FU l1 l2 l3 l4 l5 l6 v5 r6 0 σ7)
noncomputable def fX1_findRowTo_L16 (n : Nat) (l1 : Int32) (l2 : Int32) (l3 : Nat) (l4 : Int32) (l5 : Int32) (l6 : Int32) (σ : ST) : Option (Unit × ST) := loopN (α := Int32 × Int32 × Nat × Int32 × Int32 × Int32 × ST) (fun k a => fX1_findRowTo_B16 (fun l1 l2 l3 l4 l5 l6 σ => k (l1, l2, l3, l4, l5, l6, σ)) a.1 a.2.1 a.2.2.1 a.2.2.2.1 a.2.2.2.2.1 a.2.2.2.2.2.1 a.2.2.2.2.2.2) n (l1, l2, l3, l4, l5, l6, σ)
theorem xX1_findRowTo_L16 (n : Nat) (l1 : Int32) (l2 : Int32) (l3 : Nat) (l4 : Int32) (l5 : Int32) (l6 : Int32) (σ : ST) : AW wlX yX1_findRowTo cX1_findRowTo 13 none rmX1_findRowTo emV (fX1_findRowTo_L16 n l1 l2 l3 l4 l5 l6 σ) 16 [some (.inr (some 3)), some (.inl l1), some (.inl l2), some (.inr (some l3)), some (.inl l4), some (.inl l5), some (.inl l6), none, none, none, none, none, none] [] σ :=
  aw_loop (α := Int32 × Int32 × Nat × Int32 × Int32 × Int32 × ST) (Lf := fun a => [some (.inr (some 3)), some (.inl (a.1)), some (.inl (a.2.1)), some (.inr (some (a.2.2.1))), some (.inl (a.2.2.2.1)), some (.inl (a.2.2.2.2.1)), some (.inl (a.2.2.2.2.2.1)), none, none, none, none, none, none]) (sf := fun a => a.2.2.2.2.2.2) (fun k hk a => by
    obtain ⟨l1, l2, l3, l4, l5, l6, σ⟩ := a
    exact xX1_findRowTo_B16 (fun l1 l2 l3 l4 l5 l6 σ => k (l1, l2, l3, l4, l5, l6, σ)) (fun l1 l2 l3 l4 l5 l6 σ => hk (l1, l2, l3, l4, l5, l6, σ)) l1 l2 l3 l4 l5 l6 σ) n (l1, l2, l3, l4, l5, l6, σ)
noncomputable def fX1_findRowTo (a1 : Int32) (a2 : Int32) (a3 : Nat) (σ : ST) : Option (Unit × ST) :=
  bindv ((σ.1 3 1) * a1) (fun v1 => bindv (a1 - 1) (fun v2 => fX1_findRowTo_L16 FU a1 a2 a3 v1 (-1) v2 σ))
set_option maxRecDepth 10000 in
theorem xX1_findRowTo (a1 : Int32) (a2 : Int32) (a3 : Nat) (σ : ST) : MS wlX yX1_findRowTo cX1_findRowTo 13 none rmX1_findRowTo emV [.inr (some 3), .inl a1, .inl a2, .inr (some a3)] σ (fX1_findRowTo a1 a2 a3 σ) := by
  refine MS.of (by decide +kernel) (Nat.le_of_ble_eq_true rfl) ?_
  show AW wlX yX1_findRowTo cX1_findRowTo 13 none rmX1_findRowTo emV (fX1_findRowTo a1 a2 a3 σ) 0 [some (.inr (some 3)), some (.inl a1), some (.inl a2), some (.inr (some a3)), none, none, none, none, none, none, none, none, none] [] σ
  unfold fX1_findRowTo
  refine aw_aload_n (pc := 0) dX1_findRowTo_0 rfl rfl ?_
  refine aw_get (pc := 1) (v := .inl (σ.1 3 1)) foX1_15 (atX3 _) rfl dX1_findRowTo_1 ?_
  refine aw_iload_n (pc := 4) dX1_findRowTo_4 rfl rfl ?_
  refine aw_imul (pc := 5) dX1_findRowTo_5 ?_
  refine aw_stB (pc := 6) (Lf := fun v1 => [some (.inr (some 3)), some (.inl a1), some (.inl a2), some (.inr (some a3)), some (.inl v1), none, none, none, none, none, none, none, none]) dX1_findRowTo_6 (by decide) (fun _ => rfl) (fun v1 => ?_)
  refine aw_iconst (pc := 8) (v := (-1)) dX1_findRowTo_8 (by decide) ?_
  refine aw_st (pc := 9) (L' := [some (.inr (some 3)), some (.inl a1), some (.inl a2), some (.inr (some a3)), some (.inl v1), some (.inl (-1)), none, none, none, none, none, none, none]) dX1_findRowTo_9 (by decide) rfl ?_
  refine aw_iload_n (pc := 11) dX1_findRowTo_11 rfl rfl ?_
  refine aw_iconst (pc := 12) (v := 1) dX1_findRowTo_12 (by decide) ?_
  refine aw_isub (pc := 13) dX1_findRowTo_13 ?_
  refine aw_stB (pc := 14) (Lf := fun v2 => [some (.inr (some 3)), some (.inl a1), some (.inl a2), some (.inr (some a3)), some (.inl v1), some (.inl (-1)), some (.inl v2), none, none, none, none, none, none]) dX1_findRowTo_14 (by decide) (fun _ => rfl) (fun v2 => ?_)
  exact aw_wk (wk_same (wk_same (wk_same (wk_same (wk_same (wk_same (wk_same (wk_none (wk_none (wk_none (wk_none (wk_none (wk_none wk_nil))))))))))))) (xX1_findRowTo_L16 FU a1 a2 a3 v1 (-1) v2 σ)
abbrev rmX1_costOfEnd : Room := { frames := 0, cells := 0, slots := 0, locals := 0 }
noncomputable def fX1_costOfEnd (a1 : Int32) (σ : ST) : Option (Int32 × ST) :=
  if a1 = (-1) then (some (((σ.1 3 1) * (σ.1 3 15)), σ)) else (if ib a1 200 = true then some (((σ.1 22 a1.toNatClampNeg) + ((σ.1 3 1) * (((σ.1 3 15) - 1) - (a1 / 10)))), σ) else none)
set_option maxRecDepth 10000 in
theorem xX1_costOfEnd (a1 : Int32) (σ : ST) : MS wlX yX1_costOfEnd cX1_costOfEnd 2 (some .int) rmX1_costOfEnd emI [.inr (some 3), .inl a1] σ (fX1_costOfEnd a1 σ) := by
  refine MS.of (by decide +kernel) (Nat.le_of_ble_eq_true rfl) ?_
  show AW wlX yX1_costOfEnd cX1_costOfEnd 2 (some .int) rmX1_costOfEnd emI (fX1_costOfEnd a1 σ) 0 [some (.inr (some 3)), some (.inl a1)] [] σ
  unfold fX1_costOfEnd
  refine aw_iload_n (pc := 0) dX1_costOfEnd_0 rfl rfl ?_
  refine aw_iconst (pc := 1) (v := (-1)) dX1_costOfEnd_1 (by decide) ?_
  refine aw_icmp_ne (pc := 2) (tgt := 17) dX1_costOfEnd_2 (by decide) (fun _ => ?_) (fun _ => ?_)
  · refine aw_aload_n (pc := 5) dX1_costOfEnd_5 rfl rfl ?_
    refine aw_get (pc := 6) (v := .inl (σ.1 3 1)) foX1_15 (atX3 _) rfl dX1_costOfEnd_6 ?_
    refine aw_aload_n (pc := 9) dX1_costOfEnd_9 rfl rfl ?_
    refine aw_get (pc := 10) (v := .inl (σ.1 3 15)) foX1_64 (atX3 _) rfl dX1_costOfEnd_10 ?_
    refine aw_imul (pc := 13) dX1_costOfEnd_13 ?_
    refine aw_goto (pc := 14) (tgt := 40) dX1_costOfEnd_14 (by decide) ?_
    exact aw_ret_i (pc := 40) rfl rfl rfl dX1_costOfEnd_40
  refine aw_aload_n (pc := 17) dX1_costOfEnd_17 rfl rfl ?_
  refine aw_get (pc := 18) (v := .inr (some 22)) foX1_31 (atX3 _) rfl dX1_costOfEnd_18 ?_
  refine aw_iload_n (pc := 21) dX1_costOfEnd_21 rfl rfl ?_
  refine aw_iald' (pc := 22) (atX22 _) dX1_costOfEnd_22 ?_
  refine aw_aload_n (pc := 23) dX1_costOfEnd_23 rfl rfl ?_
  refine aw_get (pc := 24) (v := .inl (σ.1 3 1)) foX1_15 (atX3 _) rfl dX1_costOfEnd_24 ?_
  refine aw_aload_n (pc := 27) dX1_costOfEnd_27 rfl rfl ?_
  refine aw_get (pc := 28) (v := .inl (σ.1 3 15)) foX1_64 (atX3 _) rfl dX1_costOfEnd_28 ?_
  refine aw_iconst (pc := 31) (v := 1) dX1_costOfEnd_31 (by decide) ?_
  refine aw_isub (pc := 32) dX1_costOfEnd_32 ?_
  refine aw_iload_n (pc := 33) dX1_costOfEnd_33 rfl rfl ?_
  refine aw_bipush (pc := 34) (v := 10) dX1_costOfEnd_34 (by decide) ?_
  refine aw_idiv (pc := 36) dX1_costOfEnd_36 (by decide) ?_
  refine aw_isub (pc := 37) dX1_costOfEnd_37 ?_
  refine aw_imul (pc := 38) dX1_costOfEnd_38 ?_
  refine aw_iadd (pc := 39) dX1_costOfEnd_39 ?_
  exact aw_ret_i (pc := 40) rfl rfl rfl dX1_costOfEnd_40
abbrev rmX1_chooseLeast : Room := { frames := 2, cells := 0, slots := 0, locals := 47 }
noncomputable def fX1_chooseLeast_J86 (k13 : Int32 → Int32 → ST → Option (Unit × ST)) (k23 : Int32 → Int32 → Int32 → ST → Option (Unit × ST)) (l1 : Int32) (l2 : Int32) (l3 : Int32) (σ : ST) : Option (Unit × ST) :=
  bindv (l3 + 1) (fun v11 => k23 l1 l2 v11 σ)
set_option maxRecDepth 10000 in
theorem xX1_chooseLeast_J86 (k13 : Int32 → Int32 → ST → Option (Unit × ST)) (k23 : Int32 → Int32 → Int32 → ST → Option (Unit × ST)) (hk13 : ∀ (l1 : Int32) (l2 : Int32) (σ : ST), AW wlX yX1_chooseLeast cX1_chooseLeast 6 none rmX1_chooseLeast emV (k13 l1 l2 σ) 13 [some (.inr (some 3)), some (.inl l1), some (.inl l2), none, none, none] [] σ) (hk23 : ∀ (l1 : Int32) (l2 : Int32) (l3 : Int32) (σ : ST), AW wlX yX1_chooseLeast cX1_chooseLeast 6 none rmX1_chooseLeast emV (k23 l1 l2 l3 σ) 23 [some (.inr (some 3)), some (.inl l1), some (.inl l2), some (.inl l3), none, none] [] σ) (l1 : Int32) (l2 : Int32) (l3 : Int32) (σ : ST) : AW wlX yX1_chooseLeast cX1_chooseLeast 6 none rmX1_chooseLeast emV (fX1_chooseLeast_J86 k13 k23 l1 l2 l3 σ) 86 [some (.inr (some 3)), some (.inl l1), some (.inl l2), some (.inl l3), none, none] [] σ := by
  unfold fX1_chooseLeast_J86
  refine aw_iincB (pc := 86) (v := 1) (Lf := fun v11 => [some (.inr (some 3)), some (.inl l1), some (.inl l2), some (.inl v11), none, none]) dX1_chooseLeast_86 rfl (by decide) (by decide) (fun _ => rfl) (fun v11 => ?_)
  refine aw_goto (pc := 89) (tgt := 23) dX1_chooseLeast_89 (by decide) ?_
  exact aw_wk (wk_same (wk_same (wk_same (wk_same (wk_none (wk_none wk_nil)))))) (hk23 l1 l2 v11 σ)
noncomputable def fX1_chooseLeast_J77 (k13 : Int32 → Int32 → ST → Option (Unit × ST)) (k23 : Int32 → Int32 → Int32 → ST → Option (Unit × ST)) (l2 : Int32) (l3 : Int32) (l4 : Int32) (l5 : Int32) (σ : ST) : Option (Unit × ST) :=
  bindv (stI σ 3 14 l5) (fun σ10 => fX1_chooseLeast_J86 k13 k23 l4 l2 l3 σ10)
set_option maxRecDepth 10000 in
theorem xX1_chooseLeast_J77 (k13 : Int32 → Int32 → ST → Option (Unit × ST)) (k23 : Int32 → Int32 → Int32 → ST → Option (Unit × ST)) (hk13 : ∀ (l1 : Int32) (l2 : Int32) (σ : ST), AW wlX yX1_chooseLeast cX1_chooseLeast 6 none rmX1_chooseLeast emV (k13 l1 l2 σ) 13 [some (.inr (some 3)), some (.inl l1), some (.inl l2), none, none, none] [] σ) (hk23 : ∀ (l1 : Int32) (l2 : Int32) (l3 : Int32) (σ : ST), AW wlX yX1_chooseLeast cX1_chooseLeast 6 none rmX1_chooseLeast emV (k23 l1 l2 l3 σ) 23 [some (.inr (some 3)), some (.inl l1), some (.inl l2), some (.inl l3), none, none] [] σ) (l2 : Int32) (l3 : Int32) (l4 : Int32) (l5 : Int32) (σ : ST) : AW wlX yX1_chooseLeast cX1_chooseLeast 6 none rmX1_chooseLeast emV (fX1_chooseLeast_J77 k13 k23 l2 l3 l4 l5 σ) 77 [some (.inr (some 3)), none, some (.inl l2), some (.inl l3), some (.inl l4), some (.inl l5)] [] σ := by
  unfold fX1_chooseLeast_J77
  refine aw_aload_n (pc := 77) dX1_chooseLeast_77 rfl rfl ?_
  refine aw_iload (pc := 78) dX1_chooseLeast_78 rfl ?_
  refine aw_putI (pc := 80) fwX1_82 (atX3 _) (Nat.le_of_ble_eq_true rfl) (stX3_14 _ _) dX1_chooseLeast_80 (fun σ10 => ?_)
  refine aw_iload (pc := 83) dX1_chooseLeast_83 rfl ?_
  refine aw_stn (pc := 85) (L' := [some (.inr (some 3)), some (.inl l4), some (.inl l2), some (.inl l3), some (.inl l4), some (.inl l5)]) dX1_chooseLeast_85 rfl (by decide) rfl ?_
  exact aw_wk (wk_same (wk_same (wk_same (wk_same (wk_none (wk_none wk_nil)))))) (xX1_chooseLeast_J86 k13 k23 hk13 hk23 l4 l2 l3 σ10)
noncomputable def fX1_chooseLeast_B23 (k13 : Int32 → Int32 → ST → Option (Unit × ST)) (k23 : Int32 → Int32 → Int32 → ST → Option (Unit × ST)) (l1 : Int32) (l2 : Int32) (l3 : Int32) (σ : ST) : Option (Unit × ST) :=
  if ib l2 20 = true then if (σ.1 18 l2.toNatClampNeg) ≤ l3 then (bindv (l2 + 1) (fun v6 => k13 l1 v6 σ)) else (bindv ((l2 * 10) + l3) (fun v7 => cb (fX1_costOfEnd v7 σ) (fun r8 σ9 => if r8 < (σ9.1 3 14) then (fX1_chooseLeast_J77 k13 k23 l2 l3 v7 r8 σ9) else (if r8 = (σ9.1 3 14) then (cb (fX1_isRowFirst v7 l1 σ9) (fun r12 σ13 => if r12 = 0 then (fX1_chooseLeast_J86 k13 k23 l1 l2 l3 σ13) else (fX1_chooseLeast_J77 k13 k23 l2 l3 v7 r8 σ13))) else (fX1_chooseLeast_J86 k13 k23 l1 l2 l3 σ9))))) else none
set_option maxRecDepth 10000 in
theorem xX1_chooseLeast_B23 (k13 : Int32 → Int32 → ST → Option (Unit × ST)) (k23 : Int32 → Int32 → Int32 → ST → Option (Unit × ST)) (hk13 : ∀ (l1 : Int32) (l2 : Int32) (σ : ST), AW wlX yX1_chooseLeast cX1_chooseLeast 6 none rmX1_chooseLeast emV (k13 l1 l2 σ) 13 [some (.inr (some 3)), some (.inl l1), some (.inl l2), none, none, none] [] σ) (hk23 : ∀ (l1 : Int32) (l2 : Int32) (l3 : Int32) (σ : ST), AW wlX yX1_chooseLeast cX1_chooseLeast 6 none rmX1_chooseLeast emV (k23 l1 l2 l3 σ) 23 [some (.inr (some 3)), some (.inl l1), some (.inl l2), some (.inl l3), none, none] [] σ) (l1 : Int32) (l2 : Int32) (l3 : Int32) (σ : ST) : AW wlX yX1_chooseLeast cX1_chooseLeast 6 none rmX1_chooseLeast emV (fX1_chooseLeast_B23 k13 k23 l1 l2 l3 σ) 23 [some (.inr (some 3)), some (.inl l1), some (.inl l2), some (.inl l3), none, none] [] σ := by
  unfold fX1_chooseLeast_B23
  refine aw_iload_n (pc := 23) dX1_chooseLeast_23 rfl rfl ?_
  refine aw_aload_n (pc := 24) dX1_chooseLeast_24 rfl rfl ?_
  refine aw_get (pc := 25) (v := .inr (some 18)) foX1_18 (atX3 _) rfl dX1_chooseLeast_25 ?_
  refine aw_iload_n (pc := 28) dX1_chooseLeast_28 rfl rfl ?_
  refine aw_iald' (pc := 29) (atX18 _) dX1_chooseLeast_29 ?_
  refine aw_icmp_ge (pc := 30) (tgt := 92) dX1_chooseLeast_30 (by decide) (fun _ => ?_) (fun _ => ?_)
  · refine aw_iincB (pc := 92) (v := 1) (Lf := fun v6 => [some (.inr (some 3)), some (.inl l1), some (.inl v6), some (.inl l3), none, none]) dX1_chooseLeast_92 rfl (by decide) (by decide) (fun _ => rfl) (fun v6 => ?_)
    refine aw_goto (pc := 95) (tgt := 13) dX1_chooseLeast_95 (by decide) ?_
    exact aw_wk (wk_same (wk_same (wk_same (wk_none (wk_none (wk_none wk_nil)))))) (hk13 l1 v6 σ)
  refine aw_iload_n (pc := 33) dX1_chooseLeast_33 rfl rfl ?_
  refine aw_bipush (pc := 34) (v := 10) dX1_chooseLeast_34 (by decide) ?_
  refine aw_imul (pc := 36) dX1_chooseLeast_36 ?_
  refine aw_iload_n (pc := 37) dX1_chooseLeast_37 rfl rfl ?_
  refine aw_iadd (pc := 38) dX1_chooseLeast_38 ?_
  refine aw_stB (pc := 39) (Lf := fun v7 => [some (.inr (some 3)), some (.inl l1), some (.inl l2), some (.inl l3), some (.inl v7), none]) dX1_chooseLeast_39 (by decide) (fun _ => rfl) (fun v7 => ?_)
  refine aw_aload_n (pc := 41) dX1_chooseLeast_41 rfl rfl ?_
  refine aw_iload (pc := 42) dX1_chooseLeast_42 rfl ?_
  refine aw_cVI (pc := 44) (st := []) (xX1_costOfEnd v7 σ) (atX3 _) rfl ckX1_132 ⟨rfl, rfl, by decide, by decide⟩ (Nat.le_of_ble_eq_true rfl) dX1_chooseLeast_44 rfl (fun r8 σ9 => ?_)
  refine aw_st (pc := 47) (L' := [some (.inr (some 3)), some (.inl l1), some (.inl l2), some (.inl l3), some (.inl v7), some (.inl r8)]) dX1_chooseLeast_47 (by decide) rfl ?_
  refine aw_iload (pc := 49) dX1_chooseLeast_49 rfl ?_
  refine aw_aload_n (pc := 51) dX1_chooseLeast_51 rfl rfl ?_
  refine aw_get (pc := 52) (v := .inl (σ9.1 3 14)) foX1_82 (atX3 _) rfl dX1_chooseLeast_52 ?_
  refine aw_icmp_lt (pc := 55) (tgt := 77) dX1_chooseLeast_55 (by decide) (fun _ => ?_) (fun _ => ?_)
  · exact aw_wk (wk_same (wk_none (wk_same (wk_same (wk_same (wk_same wk_nil)))))) (xX1_chooseLeast_J77 k13 k23 hk13 hk23 l2 l3 v7 r8 σ9)
  refine aw_iload (pc := 58) dX1_chooseLeast_58 rfl ?_
  refine aw_aload_n (pc := 60) dX1_chooseLeast_60 rfl rfl ?_
  refine aw_get (pc := 61) (v := .inl (σ9.1 3 14)) foX1_82 (atX3 _) rfl dX1_chooseLeast_61 ?_
  refine aw_icmp_ne (pc := 64) (tgt := 86) dX1_chooseLeast_64 (by decide) (fun _ => ?_) (fun _ => ?_)
  · refine aw_aload_n (pc := 67) dX1_chooseLeast_67 rfl rfl ?_
    refine aw_iload (pc := 68) dX1_chooseLeast_68 rfl ?_
    refine aw_iload_n (pc := 70) dX1_chooseLeast_70 rfl rfl ?_
    refine aw_cVI (pc := 71) (st := []) (xX1_isRowFirst v7 l1 σ9) (atX3 _) rfl ckX1_121 ⟨rfl, rfl, by decide, by decide⟩ (Nat.le_of_ble_eq_true rfl) dX1_chooseLeast_71 rfl (fun r12 σ13 => ?_)
    refine aw_if_eq (pc := 74) (tgt := 86) dX1_chooseLeast_74 (by decide) (fun _ => ?_) (fun _ => ?_)
    · exact aw_wk (wk_same (wk_same (wk_same (wk_same (wk_none (wk_none wk_nil)))))) (xX1_chooseLeast_J86 k13 k23 hk13 hk23 l1 l2 l3 σ13)
    exact aw_wk (wk_same (wk_none (wk_same (wk_same (wk_same (wk_same wk_nil)))))) (xX1_chooseLeast_J77 k13 k23 hk13 hk23 l2 l3 v7 r8 σ13)
  exact aw_wk (wk_same (wk_same (wk_same (wk_same (wk_none (wk_none wk_nil)))))) (xX1_chooseLeast_J86 k13 k23 hk13 hk23 l1 l2 l3 σ9)
noncomputable def fX1_chooseLeast_L23 (k13 : Int32 → Int32 → ST → Option (Unit × ST)) (n : Nat) (l1 : Int32) (l2 : Int32) (l3 : Int32) (σ : ST) : Option (Unit × ST) := loopN (α := Int32 × Int32 × Int32 × ST) (fun k a => fX1_chooseLeast_B23 k13 (fun l1 l2 l3 σ => k (l1, l2, l3, σ)) a.1 a.2.1 a.2.2.1 a.2.2.2) n (l1, l2, l3, σ)
theorem xX1_chooseLeast_L23 (k13 : Int32 → Int32 → ST → Option (Unit × ST)) (hk13 : ∀ (l1 : Int32) (l2 : Int32) (σ : ST), AW wlX yX1_chooseLeast cX1_chooseLeast 6 none rmX1_chooseLeast emV (k13 l1 l2 σ) 13 [some (.inr (some 3)), some (.inl l1), some (.inl l2), none, none, none] [] σ) (n : Nat) (l1 : Int32) (l2 : Int32) (l3 : Int32) (σ : ST) : AW wlX yX1_chooseLeast cX1_chooseLeast 6 none rmX1_chooseLeast emV (fX1_chooseLeast_L23 k13 n l1 l2 l3 σ) 23 [some (.inr (some 3)), some (.inl l1), some (.inl l2), some (.inl l3), none, none] [] σ :=
  aw_loop (α := Int32 × Int32 × Int32 × ST) (Lf := fun a => [some (.inr (some 3)), some (.inl (a.1)), some (.inl (a.2.1)), some (.inl (a.2.2.1)), none, none]) (sf := fun a => a.2.2.2) (fun k hk a => by
    obtain ⟨l1, l2, l3, σ⟩ := a
    exact xX1_chooseLeast_B23 k13 (fun l1 l2 l3 σ => k (l1, l2, l3, σ)) hk13 (fun l1 l2 l3 σ => hk (l1, l2, l3, σ)) l1 l2 l3 σ) n (l1, l2, l3, σ)
noncomputable def fX1_chooseLeast_B13 (k13 : Int32 → Int32 → ST → Option (Unit × ST)) (l1 : Int32) (l2 : Int32) (σ : ST) : Option (Unit × ST) :=
  if (σ.1 3 15) ≤ l2 then (cb (fX1_writeRow l1 20 σ) (fun r4 σ5 => some ((), σ5))) else (fX1_chooseLeast_L23 k13 FU l1 l2 0 σ)
set_option maxRecDepth 10000 in
theorem xX1_chooseLeast_B13 (k13 : Int32 → Int32 → ST → Option (Unit × ST)) (hk13 : ∀ (l1 : Int32) (l2 : Int32) (σ : ST), AW wlX yX1_chooseLeast cX1_chooseLeast 6 none rmX1_chooseLeast emV (k13 l1 l2 σ) 13 [some (.inr (some 3)), some (.inl l1), some (.inl l2), none, none, none] [] σ) (l1 : Int32) (l2 : Int32) (σ : ST) : AW wlX yX1_chooseLeast cX1_chooseLeast 6 none rmX1_chooseLeast emV (fX1_chooseLeast_B13 k13 l1 l2 σ) 13 [some (.inr (some 3)), some (.inl l1), some (.inl l2), none, none, none] [] σ := by
  unfold fX1_chooseLeast_B13
  refine aw_iload_n (pc := 13) dX1_chooseLeast_13 rfl rfl ?_
  refine aw_aload_n (pc := 14) dX1_chooseLeast_14 rfl rfl ?_
  refine aw_get (pc := 15) (v := .inl (σ.1 3 15)) foX1_64 (atX3 _) rfl dX1_chooseLeast_15 ?_
  refine aw_icmp_ge (pc := 18) (tgt := 98) dX1_chooseLeast_18 (by decide) (fun _ => ?_) (fun _ => ?_)
  · refine aw_aload_n (pc := 98) dX1_chooseLeast_98 rfl rfl ?_
    refine aw_iload_n (pc := 99) dX1_chooseLeast_99 rfl rfl ?_
    refine aw_aload_n (pc := 100) dX1_chooseLeast_100 rfl rfl ?_
    refine aw_get (pc := 101) (v := .inr (some 20)) foX1_25 (atX3 _) rfl dX1_chooseLeast_101 ?_
    refine aw_cVV (pc := 104) (st := []) (xX1_writeRow l1 20 σ) (atX3 _) rfl ckX1_135 ⟨rfl, rfl, by decide, by decide⟩ (Nat.le_of_ble_eq_true rfl) dX1_chooseLeast_104 rfl (fun r4 σ5 => ?_)
    exact aw_ret_v (pc := 107) rfl rfl dX1_chooseLeast_107
  refine aw_iconst (pc := 21) (v := 0) dX1_chooseLeast_21 (by decide) ?_
  refine aw_stn (pc := 22) (L' := [some (.inr (some 3)), some (.inl l1), some (.inl l2), some (.inl 0), none, none]) dX1_chooseLeast_22 rfl (by decide) rfl ?_
  exact aw_wk (wk_same (wk_same (wk_same (wk_same (wk_none (wk_none wk_nil)))))) (xX1_chooseLeast_L23 k13 hk13 FU l1 l2 0 σ)
noncomputable def fX1_chooseLeast_L13 (n : Nat) (l1 : Int32) (l2 : Int32) (σ : ST) : Option (Unit × ST) := loopN (α := Int32 × Int32 × ST) (fun k a => fX1_chooseLeast_B13 (fun l1 l2 σ => k (l1, l2, σ)) a.1 a.2.1 a.2.2) n (l1, l2, σ)
theorem xX1_chooseLeast_L13 (n : Nat) (l1 : Int32) (l2 : Int32) (σ : ST) : AW wlX yX1_chooseLeast cX1_chooseLeast 6 none rmX1_chooseLeast emV (fX1_chooseLeast_L13 n l1 l2 σ) 13 [some (.inr (some 3)), some (.inl l1), some (.inl l2), none, none, none] [] σ :=
  aw_loop (α := Int32 × Int32 × ST) (Lf := fun a => [some (.inr (some 3)), some (.inl (a.1)), some (.inl (a.2.1)), none, none, none]) (sf := fun a => a.2.2) (fun k hk a => by
    obtain ⟨l1, l2, σ⟩ := a
    exact xX1_chooseLeast_B13 (fun l1 l2 σ => k (l1, l2, σ)) (fun l1 l2 σ => hk (l1, l2, σ)) l1 l2 σ) n (l1, l2, σ)
noncomputable def fX1_chooseLeast (σ : ST) : Option (Unit × ST) :=
  cb (fX1_costOfEnd (-1) σ) (fun r1 σ2 => bindv (stI σ2 3 14 r1) (fun σ3 => fX1_chooseLeast_L13 FU (-1) 0 σ3))
set_option maxRecDepth 10000 in
theorem xX1_chooseLeast (σ : ST) : MS wlX yX1_chooseLeast cX1_chooseLeast 6 none rmX1_chooseLeast emV [.inr (some 3)] σ (fX1_chooseLeast σ) := by
  refine MS.of (by decide +kernel) (Nat.le_of_ble_eq_true rfl) ?_
  show AW wlX yX1_chooseLeast cX1_chooseLeast 6 none rmX1_chooseLeast emV (fX1_chooseLeast σ) 0 [some (.inr (some 3)), none, none, none, none, none] [] σ
  unfold fX1_chooseLeast
  refine aw_iconst (pc := 0) (v := (-1)) dX1_chooseLeast_0 (by decide) ?_
  refine aw_stn (pc := 1) (L' := [some (.inr (some 3)), some (.inl (-1)), none, none, none, none]) dX1_chooseLeast_1 rfl (by decide) rfl ?_
  refine aw_aload_n (pc := 2) dX1_chooseLeast_2 rfl rfl ?_
  refine aw_aload_n (pc := 3) dX1_chooseLeast_3 rfl rfl ?_
  refine aw_iconst (pc := 4) (v := (-1)) dX1_chooseLeast_4 (by decide) ?_
  refine aw_cVI (pc := 5) (st := [.inr (some 3)]) (xX1_costOfEnd (-1) σ) (atX3 _) rfl ckX1_132 ⟨rfl, rfl, by decide, by decide⟩ (Nat.le_of_ble_eq_true rfl) dX1_chooseLeast_5 rfl (fun r1 σ2 => ?_)
  refine aw_putI (pc := 8) fwX1_82 (atX3 _) (Nat.le_of_ble_eq_true rfl) (stX3_14 _ _) dX1_chooseLeast_8 (fun σ3 => ?_)
  refine aw_iconst (pc := 11) (v := 0) dX1_chooseLeast_11 (by decide) ?_
  refine aw_stn (pc := 12) (L' := [some (.inr (some 3)), some (.inl (-1)), some (.inl 0), none, none, none]) dX1_chooseLeast_12 rfl (by decide) rfl ?_
  exact aw_wk (wk_same (wk_same (wk_same (wk_none (wk_none (wk_none wk_nil)))))) (xX1_chooseLeast_L13 FU (-1) 0 σ3)
abbrev rmX1_settle : Room := { frames := 5, cells := 0, slots := 0, locals := 133 }
noncomputable def fX1_settle_B35 (k25 : Option Nat → Int32 → ST → Option (Int32 × ST)) (k35 : Option Nat → Int32 → Int32 → ST → Option (Int32 × ST)) (l1 : Option Nat) (l2 : Int32) (l3 : Int32) (σ : ST) : Option (Int32 × ST) :=
  if ib l2 20 = true then if (σ.1 18 l2.toNatClampNeg) ≤ l3 then (bindv (l2 + 1) (fun v7 => k25 l1 v7 σ)) else (l1.elim none (fun k8 => if isDr σ k8 = true then cb (fX1_findRowTo l2 ((l2 * 10) + l3) ((k8 + 3)) σ) (fun r9 σ10 => bindv (l3 + 1) (fun v11 => k35 (some k8) l2 v11 σ10)) else none)) else none
set_option maxRecDepth 10000 in
theorem xX1_settle_B35 (k25 : Option Nat → Int32 → ST → Option (Int32 × ST)) (k35 : Option Nat → Int32 → Int32 → ST → Option (Int32 × ST)) (hk25 : ∀ (l1 : Option Nat) (l2 : Int32) (σ : ST), AW wlX yX1_settle cX1_settle 4 (some .int) rmX1_settle emI (k25 l1 l2 σ) 25 [some (.inr (some 3)), some (.inr l1), some (.inl l2), none] [] σ) (hk35 : ∀ (l1 : Option Nat) (l2 : Int32) (l3 : Int32) (σ : ST), AW wlX yX1_settle cX1_settle 4 (some .int) rmX1_settle emI (k35 l1 l2 l3 σ) 35 [some (.inr (some 3)), some (.inr l1), some (.inl l2), some (.inl l3)] [] σ) (l1 : Option Nat) (l2 : Int32) (l3 : Int32) (σ : ST) : AW wlX yX1_settle cX1_settle 4 (some .int) rmX1_settle emI (fX1_settle_B35 k25 k35 l1 l2 l3 σ) 35 [some (.inr (some 3)), some (.inr l1), some (.inl l2), some (.inl l3)] [] σ := by
  unfold fX1_settle_B35
  refine aw_iload_n (pc := 35) dX1_settle_35 rfl rfl ?_
  refine aw_aload_n (pc := 36) dX1_settle_36 rfl rfl ?_
  refine aw_get (pc := 37) (v := .inr (some 18)) foX1_18 (atX3 _) rfl dX1_settle_37 ?_
  refine aw_iload_n (pc := 40) dX1_settle_40 rfl rfl ?_
  refine aw_iald' (pc := 41) (atX18 _) dX1_settle_41 ?_
  refine aw_icmp_ge (pc := 42) (tgt := 66) dX1_settle_42 (by decide) (fun _ => ?_) (fun _ => ?_)
  · refine aw_iincB (pc := 66) (v := 1) (Lf := fun v7 => [some (.inr (some 3)), some (.inr l1), some (.inl v7), some (.inl l3)]) dX1_settle_66 rfl (by decide) (by decide) (fun _ => rfl) (fun v7 => ?_)
    refine aw_goto (pc := 69) (tgt := 25) dX1_settle_69 (by decide) ?_
    exact aw_wk (wk_same (wk_same (wk_same (wk_none wk_nil)))) (hk25 l1 v7 σ)
  refine aw_aload_n (pc := 45) dX1_settle_45 rfl rfl ?_
  refine aw_iload_n (pc := 46) dX1_settle_46 rfl rfl ?_
  refine aw_iload_n (pc := 47) dX1_settle_47 rfl rfl ?_
  refine aw_bipush (pc := 48) (v := 10) dX1_settle_48 (by decide) ?_
  refine aw_imul (pc := 50) dX1_settle_50 ?_
  refine aw_iload_n (pc := 51) dX1_settle_51 rfl rfl ?_
  refine aw_iadd (pc := 52) dX1_settle_52 ?_
  refine aw_aload_n (pc := 53) dX1_settle_53 rfl rfl ?_
  refine aw_deref (fun k8 hk8 => ?_)
  subst hk8
  refine aw_getD (pc := 54) (v := .inr (some ((k8 + 3)))) foX1_85 rfl dX1_settle_54 ?_
  refine aw_cVV (pc := 57) (st := []) (xX1_findRowTo l2 ((l2 * 10) + l3) ((k8 + 3)) σ) (atX3 _) rfl ckX1_88 ⟨rfl, rfl, by decide, by decide⟩ (Nat.le_of_ble_eq_true rfl) dX1_settle_57 rfl (fun r9 σ10 => ?_)
  refine aw_iincB (pc := 60) (v := 1) (Lf := fun v11 => [some (.inr (some 3)), some (.inr (some k8)), some (.inl l2), some (.inl v11)]) dX1_settle_60 rfl (by decide) (by decide) (fun _ => rfl) (fun v11 => ?_)
  refine aw_goto (pc := 63) (tgt := 35) dX1_settle_63 (by decide) ?_
  exact aw_wk (wk_same (wk_same (wk_same (wk_same wk_nil)))) (hk35 (some k8) l2 v11 σ10)
noncomputable def fX1_settle_L35 (k25 : Option Nat → Int32 → ST → Option (Int32 × ST)) (n : Nat) (l1 : Option Nat) (l2 : Int32) (l3 : Int32) (σ : ST) : Option (Int32 × ST) := loopN (α := Option Nat × Int32 × Int32 × ST) (fun k a => fX1_settle_B35 k25 (fun l1 l2 l3 σ => k (l1, l2, l3, σ)) a.1 a.2.1 a.2.2.1 a.2.2.2) n (l1, l2, l3, σ)
theorem xX1_settle_L35 (k25 : Option Nat → Int32 → ST → Option (Int32 × ST)) (hk25 : ∀ (l1 : Option Nat) (l2 : Int32) (σ : ST), AW wlX yX1_settle cX1_settle 4 (some .int) rmX1_settle emI (k25 l1 l2 σ) 25 [some (.inr (some 3)), some (.inr l1), some (.inl l2), none] [] σ) (n : Nat) (l1 : Option Nat) (l2 : Int32) (l3 : Int32) (σ : ST) : AW wlX yX1_settle cX1_settle 4 (some .int) rmX1_settle emI (fX1_settle_L35 k25 n l1 l2 l3 σ) 35 [some (.inr (some 3)), some (.inr l1), some (.inl l2), some (.inl l3)] [] σ :=
  aw_loop (α := Option Nat × Int32 × Int32 × ST) (Lf := fun a => [some (.inr (some 3)), some (.inr (a.1)), some (.inl (a.2.1)), some (.inl (a.2.2.1))]) (sf := fun a => a.2.2.2) (fun k hk a => by
    obtain ⟨l1, l2, l3, σ⟩ := a
    exact xX1_settle_B35 k25 (fun l1 l2 l3 σ => k (l1, l2, l3, σ)) hk25 (fun l1 l2 l3 σ => hk (l1, l2, l3, σ)) l1 l2 l3 σ) n (l1, l2, l3, σ)
noncomputable def fX1_settle_B25 (k25 : Option Nat → Int32 → ST → Option (Int32 × ST)) (l1 : Option Nat) (l2 : Int32) (σ : ST) : Option (Int32 × ST) :=
  if (σ.1 3 15) ≤ l2 then (cb (fX1_chooseLeast σ) (fun r4 σ5 => bindv (stI σ5 3 13 1) (fun σ6 => some ((σ6.1 3 14), σ6)))) else (fX1_settle_L35 k25 FU l1 l2 0 σ)
set_option maxRecDepth 10000 in
theorem xX1_settle_B25 (k25 : Option Nat → Int32 → ST → Option (Int32 × ST)) (hk25 : ∀ (l1 : Option Nat) (l2 : Int32) (σ : ST), AW wlX yX1_settle cX1_settle 4 (some .int) rmX1_settle emI (k25 l1 l2 σ) 25 [some (.inr (some 3)), some (.inr l1), some (.inl l2), none] [] σ) (l1 : Option Nat) (l2 : Int32) (σ : ST) : AW wlX yX1_settle cX1_settle 4 (some .int) rmX1_settle emI (fX1_settle_B25 k25 l1 l2 σ) 25 [some (.inr (some 3)), some (.inr l1), some (.inl l2), none] [] σ := by
  unfold fX1_settle_B25
  refine aw_iload_n (pc := 25) dX1_settle_25 rfl rfl ?_
  refine aw_aload_n (pc := 26) dX1_settle_26 rfl rfl ?_
  refine aw_get (pc := 27) (v := .inl (σ.1 3 15)) foX1_64 (atX3 _) rfl dX1_settle_27 ?_
  refine aw_icmp_ge (pc := 30) (tgt := 72) dX1_settle_30 (by decide) (fun _ => ?_) (fun _ => ?_)
  · refine aw_aload_n (pc := 72) dX1_settle_72 rfl rfl ?_
    refine aw_cVV (pc := 73) (st := []) (xX1_chooseLeast σ) (atX3 _) rfl ckX1_92 ⟨rfl, rfl, by decide, by decide⟩ (Nat.le_of_ble_eq_true rfl) dX1_settle_73 rfl (fun r4 σ5 => ?_)
    refine aw_aload_n (pc := 76) dX1_settle_76 rfl rfl ?_
    refine aw_iconst (pc := 77) (v := 1) dX1_settle_77 (by decide) ?_
    refine aw_putZ (pc := 78) fwX1_55 (atX3 _) (Nat.le_of_ble_eq_true rfl) (by decide) (stX3_13 _ _) dX1_settle_78 (fun σ6 => ?_)
    refine aw_aload_n (pc := 81) dX1_settle_81 rfl rfl ?_
    refine aw_get (pc := 82) (v := .inl (σ6.1 3 14)) foX1_82 (atX3 _) rfl dX1_settle_82 ?_
    exact aw_ret_i (pc := 85) rfl rfl rfl dX1_settle_85
  refine aw_iconst (pc := 33) (v := 0) dX1_settle_33 (by decide) ?_
  refine aw_stn (pc := 34) (L' := [some (.inr (some 3)), some (.inr l1), some (.inl l2), some (.inl 0)]) dX1_settle_34 rfl (by decide) rfl ?_
  exact aw_wk (wk_same (wk_same (wk_same (wk_same wk_nil)))) (xX1_settle_L35 k25 hk25 FU l1 l2 0 σ)
noncomputable def fX1_settle_L25 (n : Nat) (l1 : Option Nat) (l2 : Int32) (σ : ST) : Option (Int32 × ST) := loopN (α := Option Nat × Int32 × ST) (fun k a => fX1_settle_B25 (fun l1 l2 σ => k (l1, l2, σ)) a.1 a.2.1 a.2.2) n (l1, l2, σ)
theorem xX1_settle_L25 (n : Nat) (l1 : Option Nat) (l2 : Int32) (σ : ST) : AW wlX yX1_settle cX1_settle 4 (some .int) rmX1_settle emI (fX1_settle_L25 n l1 l2 σ) 25 [some (.inr (some 3)), some (.inr l1), some (.inl l2), none] [] σ :=
  aw_loop (α := Option Nat × Int32 × ST) (Lf := fun a => [some (.inr (some 3)), some (.inr (a.1)), some (.inl (a.2.1)), none]) (sf := fun a => a.2.2) (fun k hk a => by
    obtain ⟨l1, l2, σ⟩ := a
    exact xX1_settle_B25 (fun l1 l2 σ => k (l1, l2, σ)) (fun l1 l2 σ => hk (l1, l2, σ)) l1 l2 σ) n (l1, l2, σ)
noncomputable def fX1_settle (a1 : Option Nat) (σ : ST) : Option (Int32 × ST) :=
  a1.elim (some ((-1), σ)) (fun k1 => cb (fX1_gather k1 σ) (fun r2 σ3 => if (σ3.1 3 13) = 0 then (fX1_settle_L25 FU (some k1) 0 σ3) else (some ((σ3.1 3 14), σ3))))
set_option maxRecDepth 10000 in
theorem xX1_settle (a1 : Option Nat) (σ : ST) : MS wlX yX1_settle cX1_settle 4 (some .int) rmX1_settle emI [.inr (some 3), .inr a1] σ (fX1_settle a1 σ) := by
  refine MS.of (by decide +kernel) (Nat.le_of_ble_eq_true rfl) ?_
  show AW wlX yX1_settle cX1_settle 4 (some .int) rmX1_settle emI (fX1_settle a1 σ) 0 [some (.inr (some 3)), some (.inr a1), none, none] [] σ
  unfold fX1_settle
  refine aw_aload_n (pc := 0) dX1_settle_0 rfl rfl ?_
  refine aw_elimN (pc := 1) (tgt := 6) dX1_settle_1 (by decide) (fun _ => ?_) (fun k1 hk1 => ?_)
  · refine aw_iconst (pc := 4) (v := (-1)) dX1_settle_4 (by decide) ?_
    exact aw_ret_i (pc := 5) rfl rfl rfl dX1_settle_5
  subst hk1
  refine aw_aload_n (pc := 6) dX1_settle_6 rfl rfl ?_
  refine aw_aload_n (pc := 7) dX1_settle_7 rfl rfl ?_
  refine aw_cVV (pc := 8) (st := []) (xX1_gather k1 σ) (atX3 _) rfl ckX1_78 ⟨rfl, rfl, by decide, by decide⟩ (Nat.le_of_ble_eq_true rfl) dX1_settle_8 rfl (fun r2 σ3 => ?_)
  refine aw_aload_n (pc := 11) dX1_settle_11 rfl rfl ?_
  refine aw_get (pc := 12) (v := .inl (σ3.1 3 13)) foX1_55 (atX3 _) rfl dX1_settle_12 ?_
  refine aw_if_eq (pc := 15) (tgt := 23) dX1_settle_15 (by decide) (fun _ => ?_) (fun _ => ?_)
  · refine aw_iconst (pc := 23) (v := 0) dX1_settle_23 (by decide) ?_
    refine aw_stn (pc := 24) (L' := [some (.inr (some 3)), some (.inr (some k1)), some (.inl 0), none]) dX1_settle_24 rfl (by decide) rfl ?_
    exact aw_wk (wk_same (wk_same (wk_same (wk_none wk_nil)))) (xX1_settle_L25 FU (some k1) 0 σ3)
  refine aw_aload_n (pc := 18) dX1_settle_18 rfl rfl ?_
  refine aw_get (pc := 19) (v := .inl (σ3.1 3 14)) foX1_82 (atX3 _) rfl dX1_settle_19 ?_
  exact aw_ret_i (pc := 22) rfl rfl rfl dX1_settle_22
abbrev rmX1_sameInEnd : Room := { frames := 1, cells := 0, slots := 0, locals := 24 }
noncomputable def fX1_sameInEnd (a1 : Int32) (σ : ST) : Option (Int32 × ST) :=
  cb (fX1_writeRow a1 24 σ) (fun r1 σ2 => cb (fX1_countSame 24 20 σ2) (fun r3 σ4 => some (r3, σ4)))
set_option maxRecDepth 10000 in
theorem xX1_sameInEnd (a1 : Int32) (σ : ST) : MS wlX yX1_sameInEnd cX1_sameInEnd 2 (some .int) rmX1_sameInEnd emI [.inr (some 3), .inl a1] σ (fX1_sameInEnd a1 σ) := by
  refine MS.of (by decide +kernel) (Nat.le_of_ble_eq_true rfl) ?_
  show AW wlX yX1_sameInEnd cX1_sameInEnd 2 (some .int) rmX1_sameInEnd emI (fX1_sameInEnd a1 σ) 0 [some (.inr (some 3)), some (.inl a1)] [] σ
  unfold fX1_sameInEnd
  refine aw_aload_n (pc := 0) dX1_sameInEnd_0 rfl rfl ?_
  refine aw_iload_n (pc := 1) dX1_sameInEnd_1 rfl rfl ?_
  refine aw_aload_n (pc := 2) dX1_sameInEnd_2 rfl rfl ?_
  refine aw_get (pc := 3) (v := .inr (some 24)) foX1_37 (atX3 _) rfl dX1_sameInEnd_3 ?_
  refine aw_cVV (pc := 6) (st := []) (xX1_writeRow a1 24 σ) (atX3 _) rfl ckX1_135 ⟨rfl, rfl, by decide, by decide⟩ (Nat.le_of_ble_eq_true rfl) dX1_sameInEnd_6 rfl (fun r1 σ2 => ?_)
  refine aw_aload_n (pc := 9) dX1_sameInEnd_9 rfl rfl ?_
  refine aw_aload_n (pc := 10) dX1_sameInEnd_10 rfl rfl ?_
  refine aw_get (pc := 11) (v := .inr (some 24)) foX1_37 (atX3 _) rfl dX1_sameInEnd_11 ?_
  refine aw_aload_n (pc := 14) dX1_sameInEnd_14 rfl rfl ?_
  refine aw_get (pc := 15) (v := .inr (some 20)) foX1_25 (atX3 _) rfl dX1_sameInEnd_15 ?_
  refine aw_cVI (pc := 18) (st := []) (xX1_countSame 24 20 σ2) (atX3 _) rfl ckX1_139 ⟨rfl, rfl, by decide, by decide⟩ (Nat.le_of_ble_eq_true rfl) dX1_sameInEnd_18 rfl (fun r3 σ4 => ?_)
  exact aw_ret_i (pc := 21) rfl rfl rfl dX1_sameInEnd_21
abbrev rmX1_sameInEnds : Room := { frames := 2, cells := 0, slots := 0, locals := 45 }
noncomputable def fX1_sameInEnds_J76 (k24 : Int32 → Int32 → Int32 → ST → Option (Int32 × ST)) (k35 : Int32 → Int32 → Int32 → Int32 → ST → Option (Int32 × ST)) (l1 : Int32) (l2 : Int32) (l3 : Int32) (l4 : Int32) (σ : ST) : Option (Int32 × ST) :=
  bindv (l4 + 1) (fun v7 => k35 l1 l2 l3 v7 σ)
set_option maxRecDepth 10000 in
theorem xX1_sameInEnds_J76 (k24 : Int32 → Int32 → Int32 → ST → Option (Int32 × ST)) (k35 : Int32 → Int32 → Int32 → Int32 → ST → Option (Int32 × ST)) (hk24 : ∀ (l1 : Int32) (l2 : Int32) (l3 : Int32) (σ : ST), AW wlX yX1_sameInEnds cX1_sameInEnds 6 (some .int) rmX1_sameInEnds emI (k24 l1 l2 l3 σ) 24 [some (.inr (some 3)), some (.inl l1), some (.inl l2), some (.inl l3), none, none] [] σ) (hk35 : ∀ (l1 : Int32) (l2 : Int32) (l3 : Int32) (l4 : Int32) (σ : ST), AW wlX yX1_sameInEnds cX1_sameInEnds 6 (some .int) rmX1_sameInEnds emI (k35 l1 l2 l3 l4 σ) 35 [some (.inr (some 3)), some (.inl l1), some (.inl l2), some (.inl l3), some (.inl l4), none] [] σ) (l1 : Int32) (l2 : Int32) (l3 : Int32) (l4 : Int32) (σ : ST) : AW wlX yX1_sameInEnds cX1_sameInEnds 6 (some .int) rmX1_sameInEnds emI (fX1_sameInEnds_J76 k24 k35 l1 l2 l3 l4 σ) 76 [some (.inr (some 3)), some (.inl l1), some (.inl l2), some (.inl l3), some (.inl l4), none] [] σ := by
  unfold fX1_sameInEnds_J76
  refine aw_iincB (pc := 76) (v := 1) (Lf := fun v7 => [some (.inr (some 3)), some (.inl l1), some (.inl l2), some (.inl l3), some (.inl v7), none]) dX1_sameInEnds_76 rfl (by decide) (by decide) (fun _ => rfl) (fun v7 => ?_)
  refine aw_goto (pc := 79) (tgt := 35) dX1_sameInEnds_79 (by decide) ?_
  exact aw_wk (wk_same (wk_same (wk_same (wk_same (wk_same (wk_none wk_nil)))))) (hk35 l1 l2 l3 v7 σ)
noncomputable def fX1_sameInEnds_B35 (k24 : Int32 → Int32 → Int32 → ST → Option (Int32 × ST)) (k35 : Int32 → Int32 → Int32 → Int32 → ST → Option (Int32 × ST)) (l1 : Int32) (l2 : Int32) (l3 : Int32) (l4 : Int32) (σ : ST) : Option (Int32 × ST) :=
  if ib l3 20 = true then if (σ.1 18 l3.toNatClampNeg) ≤ l4 then (bindv (l3 + 1) (fun v3 => k24 l1 l2 v3 σ)) else (bindv ((l3 * 10) + l4) (fun v4 => cb (fX1_costOfEnd v4 σ) (fun r5 σ6 => if l1 < r5 then (fX1_sameInEnds_J76 k24 k35 l1 l2 l3 l4 σ6) else (cb (fX1_sameInEnd v4 σ6) (fun r8 σ9 => bindv (if r8 < l2 then r8 else l2) (fun v10 => fX1_sameInEnds_J76 k24 k35 l1 v10 l3 l4 σ9)))))) else none
set_option maxRecDepth 10000 in
theorem xX1_sameInEnds_B35 (k24 : Int32 → Int32 → Int32 → ST → Option (Int32 × ST)) (k35 : Int32 → Int32 → Int32 → Int32 → ST → Option (Int32 × ST)) (hk24 : ∀ (l1 : Int32) (l2 : Int32) (l3 : Int32) (σ : ST), AW wlX yX1_sameInEnds cX1_sameInEnds 6 (some .int) rmX1_sameInEnds emI (k24 l1 l2 l3 σ) 24 [some (.inr (some 3)), some (.inl l1), some (.inl l2), some (.inl l3), none, none] [] σ) (hk35 : ∀ (l1 : Int32) (l2 : Int32) (l3 : Int32) (l4 : Int32) (σ : ST), AW wlX yX1_sameInEnds cX1_sameInEnds 6 (some .int) rmX1_sameInEnds emI (k35 l1 l2 l3 l4 σ) 35 [some (.inr (some 3)), some (.inl l1), some (.inl l2), some (.inl l3), some (.inl l4), none] [] σ) (l1 : Int32) (l2 : Int32) (l3 : Int32) (l4 : Int32) (σ : ST) : AW wlX yX1_sameInEnds cX1_sameInEnds 6 (some .int) rmX1_sameInEnds emI (fX1_sameInEnds_B35 k24 k35 l1 l2 l3 l4 σ) 35 [some (.inr (some 3)), some (.inl l1), some (.inl l2), some (.inl l3), some (.inl l4), none] [] σ := by
  unfold fX1_sameInEnds_B35
  refine aw_iload (pc := 35) dX1_sameInEnds_35 rfl ?_
  refine aw_aload_n (pc := 37) dX1_sameInEnds_37 rfl rfl ?_
  refine aw_get (pc := 38) (v := .inr (some 18)) foX1_18 (atX3 _) rfl dX1_sameInEnds_38 ?_
  refine aw_iload_n (pc := 41) dX1_sameInEnds_41 rfl rfl ?_
  refine aw_iald' (pc := 42) (atX18 _) dX1_sameInEnds_42 ?_
  refine aw_icmp_ge (pc := 43) (tgt := 82) dX1_sameInEnds_43 (by decide) (fun _ => ?_) (fun _ => ?_)
  · refine aw_iincB (pc := 82) (v := 1) (Lf := fun v3 => [some (.inr (some 3)), some (.inl l1), some (.inl l2), some (.inl v3), some (.inl l4), none]) dX1_sameInEnds_82 rfl (by decide) (by decide) (fun _ => rfl) (fun v3 => ?_)
    refine aw_goto (pc := 85) (tgt := 24) dX1_sameInEnds_85 (by decide) ?_
    exact aw_wk (wk_same (wk_same (wk_same (wk_same (wk_none (wk_none wk_nil)))))) (hk24 l1 l2 v3 σ)
  refine aw_iload_n (pc := 46) dX1_sameInEnds_46 rfl rfl ?_
  refine aw_bipush (pc := 47) (v := 10) dX1_sameInEnds_47 (by decide) ?_
  refine aw_imul (pc := 49) dX1_sameInEnds_49 ?_
  refine aw_iload (pc := 50) dX1_sameInEnds_50 rfl ?_
  refine aw_iadd (pc := 52) dX1_sameInEnds_52 ?_
  refine aw_stB (pc := 53) (Lf := fun v4 => [some (.inr (some 3)), some (.inl l1), some (.inl l2), some (.inl l3), some (.inl l4), some (.inl v4)]) dX1_sameInEnds_53 (by decide) (fun _ => rfl) (fun v4 => ?_)
  refine aw_aload_n (pc := 55) dX1_sameInEnds_55 rfl rfl ?_
  refine aw_iload (pc := 56) dX1_sameInEnds_56 rfl ?_
  refine aw_cVI (pc := 58) (st := []) (xX1_costOfEnd v4 σ) (atX3 _) rfl ckX1_132 ⟨rfl, rfl, by decide, by decide⟩ (Nat.le_of_ble_eq_true rfl) dX1_sameInEnds_58 rfl (fun r5 σ6 => ?_)
  refine aw_iload_n (pc := 61) dX1_sameInEnds_61 rfl rfl ?_
  refine aw_icmp_gt (pc := 62) (tgt := 76) dX1_sameInEnds_62 (by decide) (fun _ => ?_) (fun _ => ?_)
  · exact aw_wk (wk_same (wk_same (wk_same (wk_same (wk_same (wk_none wk_nil)))))) (xX1_sameInEnds_J76 k24 k35 hk24 hk35 l1 l2 l3 l4 σ6)
  refine aw_iload_n (pc := 65) dX1_sameInEnds_65 rfl rfl ?_
  refine aw_aload_n (pc := 66) dX1_sameInEnds_66 rfl rfl ?_
  refine aw_iload (pc := 67) dX1_sameInEnds_67 rfl ?_
  refine aw_cVI (pc := 69) (st := [.inl l2]) (xX1_sameInEnd v4 σ6) (atX3 _) rfl ckX1_143 ⟨rfl, rfl, by decide, by decide⟩ (Nat.le_of_ble_eq_true rfl) dX1_sameInEnds_69 rfl (fun r8 σ9 => ?_)
  refine aw_mmin (pc := 72) ckX1_146 mj_min.1 mj_ini mj_min.2 (by decide) (Nat.le_of_ble_eq_true rfl) dX1_sameInEnds_72 ?_
  refine aw_stnB (pc := 75) (Lf := fun v10 => [some (.inr (some 3)), some (.inl l1), some (.inl v10), some (.inl l3), some (.inl l4), some (.inl v4)]) dX1_sameInEnds_75 rfl (by decide) (fun _ => rfl) (fun v10 => ?_)
  exact aw_wk (wk_same (wk_same (wk_same (wk_same (wk_same (wk_none wk_nil)))))) (xX1_sameInEnds_J76 k24 k35 hk24 hk35 l1 v10 l3 l4 σ9)
noncomputable def fX1_sameInEnds_L35 (k24 : Int32 → Int32 → Int32 → ST → Option (Int32 × ST)) (n : Nat) (l1 : Int32) (l2 : Int32) (l3 : Int32) (l4 : Int32) (σ : ST) : Option (Int32 × ST) := loopN (α := Int32 × Int32 × Int32 × Int32 × ST) (fun k a => fX1_sameInEnds_B35 k24 (fun l1 l2 l3 l4 σ => k (l1, l2, l3, l4, σ)) a.1 a.2.1 a.2.2.1 a.2.2.2.1 a.2.2.2.2) n (l1, l2, l3, l4, σ)
theorem xX1_sameInEnds_L35 (k24 : Int32 → Int32 → Int32 → ST → Option (Int32 × ST)) (hk24 : ∀ (l1 : Int32) (l2 : Int32) (l3 : Int32) (σ : ST), AW wlX yX1_sameInEnds cX1_sameInEnds 6 (some .int) rmX1_sameInEnds emI (k24 l1 l2 l3 σ) 24 [some (.inr (some 3)), some (.inl l1), some (.inl l2), some (.inl l3), none, none] [] σ) (n : Nat) (l1 : Int32) (l2 : Int32) (l3 : Int32) (l4 : Int32) (σ : ST) : AW wlX yX1_sameInEnds cX1_sameInEnds 6 (some .int) rmX1_sameInEnds emI (fX1_sameInEnds_L35 k24 n l1 l2 l3 l4 σ) 35 [some (.inr (some 3)), some (.inl l1), some (.inl l2), some (.inl l3), some (.inl l4), none] [] σ :=
  aw_loop (α := Int32 × Int32 × Int32 × Int32 × ST) (Lf := fun a => [some (.inr (some 3)), some (.inl (a.1)), some (.inl (a.2.1)), some (.inl (a.2.2.1)), some (.inl (a.2.2.2.1)), none]) (sf := fun a => a.2.2.2.2) (fun k hk a => by
    obtain ⟨l1, l2, l3, l4, σ⟩ := a
    exact xX1_sameInEnds_B35 k24 (fun l1 l2 l3 l4 σ => k (l1, l2, l3, l4, σ)) hk24 (fun l1 l2 l3 l4 σ => hk (l1, l2, l3, l4, σ)) l1 l2 l3 l4 σ) n (l1, l2, l3, l4, σ)
noncomputable def fX1_sameInEnds_B24 (k24 : Int32 → Int32 → Int32 → ST → Option (Int32 × ST)) (l1 : Int32) (l2 : Int32) (l3 : Int32) (σ : ST) : Option (Int32 × ST) :=
  if (σ.1 3 15) ≤ l3 then (some (l2, σ)) else (fX1_sameInEnds_L35 k24 FU l1 l2 l3 0 σ)
set_option maxRecDepth 10000 in
theorem xX1_sameInEnds_B24 (k24 : Int32 → Int32 → Int32 → ST → Option (Int32 × ST)) (hk24 : ∀ (l1 : Int32) (l2 : Int32) (l3 : Int32) (σ : ST), AW wlX yX1_sameInEnds cX1_sameInEnds 6 (some .int) rmX1_sameInEnds emI (k24 l1 l2 l3 σ) 24 [some (.inr (some 3)), some (.inl l1), some (.inl l2), some (.inl l3), none, none] [] σ) (l1 : Int32) (l2 : Int32) (l3 : Int32) (σ : ST) : AW wlX yX1_sameInEnds cX1_sameInEnds 6 (some .int) rmX1_sameInEnds emI (fX1_sameInEnds_B24 k24 l1 l2 l3 σ) 24 [some (.inr (some 3)), some (.inl l1), some (.inl l2), some (.inl l3), none, none] [] σ := by
  unfold fX1_sameInEnds_B24
  refine aw_iload_n (pc := 24) dX1_sameInEnds_24 rfl rfl ?_
  refine aw_aload_n (pc := 25) dX1_sameInEnds_25 rfl rfl ?_
  refine aw_get (pc := 26) (v := .inl (σ.1 3 15)) foX1_64 (atX3 _) rfl dX1_sameInEnds_26 ?_
  refine aw_icmp_ge (pc := 29) (tgt := 88) dX1_sameInEnds_29 (by decide) (fun _ => ?_) (fun _ => ?_)
  · refine aw_iload_n (pc := 88) dX1_sameInEnds_88 rfl rfl ?_
    exact aw_ret_i (pc := 89) rfl rfl rfl dX1_sameInEnds_89
  refine aw_iconst (pc := 32) (v := 0) dX1_sameInEnds_32 (by decide) ?_
  refine aw_st (pc := 33) (L' := [some (.inr (some 3)), some (.inl l1), some (.inl l2), some (.inl l3), some (.inl 0), none]) dX1_sameInEnds_33 (by decide) rfl ?_
  exact aw_wk (wk_same (wk_same (wk_same (wk_same (wk_same (wk_none wk_nil)))))) (xX1_sameInEnds_L35 k24 hk24 FU l1 l2 l3 0 σ)
noncomputable def fX1_sameInEnds_L24 (n : Nat) (l1 : Int32) (l2 : Int32) (l3 : Int32) (σ : ST) : Option (Int32 × ST) := loopN (α := Int32 × Int32 × Int32 × ST) (fun k a => fX1_sameInEnds_B24 (fun l1 l2 l3 σ => k (l1, l2, l3, σ)) a.1 a.2.1 a.2.2.1 a.2.2.2) n (l1, l2, l3, σ)
theorem xX1_sameInEnds_L24 (n : Nat) (l1 : Int32) (l2 : Int32) (l3 : Int32) (σ : ST) : AW wlX yX1_sameInEnds cX1_sameInEnds 6 (some .int) rmX1_sameInEnds emI (fX1_sameInEnds_L24 n l1 l2 l3 σ) 24 [some (.inr (some 3)), some (.inl l1), some (.inl l2), some (.inl l3), none, none] [] σ :=
  aw_loop (α := Int32 × Int32 × Int32 × ST) (Lf := fun a => [some (.inr (some 3)), some (.inl (a.1)), some (.inl (a.2.1)), some (.inl (a.2.2.1)), none, none]) (sf := fun a => a.2.2.2) (fun k hk a => by
    obtain ⟨l1, l2, l3, σ⟩ := a
    exact xX1_sameInEnds_B24 (fun l1 l2 l3 σ => k (l1, l2, l3, σ)) (fun l1 l2 l3 σ => hk (l1, l2, l3, σ)) l1 l2 l3 σ) n (l1, l2, l3, σ)
noncomputable def fX1_sameInEnds_J21 (l1 : Int32) (s0 : Int32) (σ : ST) : Option (Int32 × ST) :=
  fX1_sameInEnds_L24 FU l1 s0 0 σ
set_option maxRecDepth 10000 in
theorem xX1_sameInEnds_J21 (l1 : Int32) (s0 : Int32) (σ : ST) : AW wlX yX1_sameInEnds cX1_sameInEnds 6 (some .int) rmX1_sameInEnds emI (fX1_sameInEnds_J21 l1 s0 σ) 21 [some (.inr (some 3)), some (.inl l1), none, none, none, none] [.inl s0] σ := by
  unfold fX1_sameInEnds_J21
  refine aw_stn (pc := 21) (L' := [some (.inr (some 3)), some (.inl l1), some (.inl s0), none, none, none]) dX1_sameInEnds_21 rfl (by decide) rfl ?_
  refine aw_iconst (pc := 22) (v := 0) dX1_sameInEnds_22 (by decide) ?_
  refine aw_stn (pc := 23) (L' := [some (.inr (some 3)), some (.inl l1), some (.inl s0), some (.inl 0), none, none]) dX1_sameInEnds_23 rfl (by decide) rfl ?_
  exact aw_wk (wk_same (wk_same (wk_same (wk_same (wk_none (wk_none wk_nil)))))) (xX1_sameInEnds_L24 FU l1 s0 0 σ)
noncomputable def fX1_sameInEnds (a1 : Int32) (σ : ST) : Option (Int32 × ST) :=
  cb (fX1_costOfEnd (-1) σ) (fun r1 σ2 => if a1 < r1 then (fX1_sameInEnds_J21 a1 (σ2.1 3 15) σ2) else (cb (fX1_sameInEnd (-1) σ2) (fun r11 σ12 => fX1_sameInEnds_J21 a1 r11 σ12)))
set_option maxRecDepth 10000 in
theorem xX1_sameInEnds (a1 : Int32) (σ : ST) : MS wlX yX1_sameInEnds cX1_sameInEnds 6 (some .int) rmX1_sameInEnds emI [.inr (some 3), .inl a1] σ (fX1_sameInEnds a1 σ) := by
  refine MS.of (by decide +kernel) (Nat.le_of_ble_eq_true rfl) ?_
  show AW wlX yX1_sameInEnds cX1_sameInEnds 6 (some .int) rmX1_sameInEnds emI (fX1_sameInEnds a1 σ) 0 [some (.inr (some 3)), some (.inl a1), none, none, none, none] [] σ
  unfold fX1_sameInEnds
  refine aw_aload_n (pc := 0) dX1_sameInEnds_0 rfl rfl ?_
  refine aw_iconst (pc := 1) (v := (-1)) dX1_sameInEnds_1 (by decide) ?_
  refine aw_cVI (pc := 2) (st := []) (xX1_costOfEnd (-1) σ) (atX3 _) rfl ckX1_132 ⟨rfl, rfl, by decide, by decide⟩ (Nat.le_of_ble_eq_true rfl) dX1_sameInEnds_2 rfl (fun r1 σ2 => ?_)
  refine aw_iload_n (pc := 5) dX1_sameInEnds_5 rfl rfl ?_
  refine aw_icmp_gt (pc := 6) (tgt := 17) dX1_sameInEnds_6 (by decide) (fun _ => ?_) (fun _ => ?_)
  · refine aw_aload_n (pc := 17) dX1_sameInEnds_17 rfl rfl ?_
    refine aw_get (pc := 18) (v := .inl (σ2.1 3 15)) foX1_64 (atX3 _) rfl dX1_sameInEnds_18 ?_
    exact aw_wk (wk_same (wk_same (wk_none (wk_none (wk_none (wk_none wk_nil)))))) (xX1_sameInEnds_J21 a1 (σ2.1 3 15) σ2)
  refine aw_aload_n (pc := 9) dX1_sameInEnds_9 rfl rfl ?_
  refine aw_iconst (pc := 10) (v := (-1)) dX1_sameInEnds_10 (by decide) ?_
  refine aw_cVI (pc := 11) (st := []) (xX1_sameInEnd (-1) σ2) (atX3 _) rfl ckX1_143 ⟨rfl, rfl, by decide, by decide⟩ (Nat.le_of_ble_eq_true rfl) dX1_sameInEnds_11 rfl (fun r11 σ12 => ?_)
  refine aw_goto (pc := 14) (tgt := 21) dX1_sameInEnds_14 (by decide) ?_
  exact aw_wk (wk_same (wk_same (wk_none (wk_none (wk_none (wk_none wk_nil)))))) (xX1_sameInEnds_J21 a1 r11 σ12)
abbrev rmX1_findSlot : Room := { frames := 0, cells := 0, slots := 0, locals := 0 }
noncomputable def fX1_findSlot_B2 (k2 : Int32 → Int32 → Int32 → ST → Option (Int32 × ST)) (l1 : Int32) (l2 : Int32) (l3 : Int32) (σ : ST) : Option (Int32 × ST) :=
  if ib l1 20 = true then if (σ.1 18 l1.toNatClampNeg) ≤ l3 then (some ((-1), σ)) else (if ib ((l1 * 10) + l3) 200 = true then if (σ.1 19 ((l1 * 10) + l3).toNatClampNeg) = l2 then (some (((l1 * 10) + l3), σ)) else (bindv (l3 + 1) (fun v1 => k2 l1 l2 v1 σ)) else none) else none
set_option maxRecDepth 10000 in
theorem xX1_findSlot_B2 (k2 : Int32 → Int32 → Int32 → ST → Option (Int32 × ST)) (hk2 : ∀ (l1 : Int32) (l2 : Int32) (l3 : Int32) (σ : ST), AW wlX yX1_findSlot cX1_findSlot 4 (some .int) rmX1_findSlot emI (k2 l1 l2 l3 σ) 2 [some (.inr (some 3)), some (.inl l1), some (.inl l2), some (.inl l3)] [] σ) (l1 : Int32) (l2 : Int32) (l3 : Int32) (σ : ST) : AW wlX yX1_findSlot cX1_findSlot 4 (some .int) rmX1_findSlot emI (fX1_findSlot_B2 k2 l1 l2 l3 σ) 2 [some (.inr (some 3)), some (.inl l1), some (.inl l2), some (.inl l3)] [] σ := by
  unfold fX1_findSlot_B2
  refine aw_iload_n (pc := 2) dX1_findSlot_2 rfl rfl ?_
  refine aw_aload_n (pc := 3) dX1_findSlot_3 rfl rfl ?_
  refine aw_get (pc := 4) (v := .inr (some 18)) foX1_18 (atX3 _) rfl dX1_findSlot_4 ?_
  refine aw_iload_n (pc := 7) dX1_findSlot_7 rfl rfl ?_
  refine aw_iald' (pc := 8) (atX18 _) dX1_findSlot_8 ?_
  refine aw_icmp_ge (pc := 9) (tgt := 40) dX1_findSlot_9 (by decide) (fun _ => ?_) (fun _ => ?_)
  · refine aw_iconst (pc := 40) (v := (-1)) dX1_findSlot_40 (by decide) ?_
    exact aw_ret_i (pc := 41) rfl rfl rfl dX1_findSlot_41
  refine aw_aload_n (pc := 12) dX1_findSlot_12 rfl rfl ?_
  refine aw_get (pc := 13) (v := .inr (some 19)) foX1_22 (atX3 _) rfl dX1_findSlot_13 ?_
  refine aw_iload_n (pc := 16) dX1_findSlot_16 rfl rfl ?_
  refine aw_bipush (pc := 17) (v := 10) dX1_findSlot_17 (by decide) ?_
  refine aw_imul (pc := 19) dX1_findSlot_19 ?_
  refine aw_iload_n (pc := 20) dX1_findSlot_20 rfl rfl ?_
  refine aw_iadd (pc := 21) dX1_findSlot_21 ?_
  refine aw_iald' (pc := 22) (atX19 _) dX1_findSlot_22 ?_
  refine aw_iload_n (pc := 23) dX1_findSlot_23 rfl rfl ?_
  refine aw_icmp_ne (pc := 24) (tgt := 34) dX1_findSlot_24 (by decide) (fun _ => ?_) (fun _ => ?_)
  · refine aw_iload_n (pc := 27) dX1_findSlot_27 rfl rfl ?_
    refine aw_bipush (pc := 28) (v := 10) dX1_findSlot_28 (by decide) ?_
    refine aw_imul (pc := 30) dX1_findSlot_30 ?_
    refine aw_iload_n (pc := 31) dX1_findSlot_31 rfl rfl ?_
    refine aw_iadd (pc := 32) dX1_findSlot_32 ?_
    exact aw_ret_i (pc := 33) rfl rfl rfl dX1_findSlot_33
  refine aw_iincB (pc := 34) (v := 1) (Lf := fun v1 => [some (.inr (some 3)), some (.inl l1), some (.inl l2), some (.inl v1)]) dX1_findSlot_34 rfl (by decide) (by decide) (fun _ => rfl) (fun v1 => ?_)
  refine aw_goto (pc := 37) (tgt := 2) dX1_findSlot_37 (by decide) ?_
  exact aw_wk (wk_same (wk_same (wk_same (wk_same wk_nil)))) (hk2 l1 l2 v1 σ)
noncomputable def fX1_findSlot_L2 (n : Nat) (l1 : Int32) (l2 : Int32) (l3 : Int32) (σ : ST) : Option (Int32 × ST) := loopN (α := Int32 × Int32 × Int32 × ST) (fun k a => fX1_findSlot_B2 (fun l1 l2 l3 σ => k (l1, l2, l3, σ)) a.1 a.2.1 a.2.2.1 a.2.2.2) n (l1, l2, l3, σ)
theorem xX1_findSlot_L2 (n : Nat) (l1 : Int32) (l2 : Int32) (l3 : Int32) (σ : ST) : AW wlX yX1_findSlot cX1_findSlot 4 (some .int) rmX1_findSlot emI (fX1_findSlot_L2 n l1 l2 l3 σ) 2 [some (.inr (some 3)), some (.inl l1), some (.inl l2), some (.inl l3)] [] σ :=
  aw_loop (α := Int32 × Int32 × Int32 × ST) (Lf := fun a => [some (.inr (some 3)), some (.inl (a.1)), some (.inl (a.2.1)), some (.inl (a.2.2.1))]) (sf := fun a => a.2.2.2) (fun k hk a => by
    obtain ⟨l1, l2, l3, σ⟩ := a
    exact xX1_findSlot_B2 (fun l1 l2 l3 σ => k (l1, l2, l3, σ)) (fun l1 l2 l3 σ => hk (l1, l2, l3, σ)) l1 l2 l3 σ) n (l1, l2, l3, σ)
noncomputable def fX1_findSlot (a1 : Int32) (a2 : Int32) (σ : ST) : Option (Int32 × ST) :=
  fX1_findSlot_L2 FU a1 a2 0 σ
set_option maxRecDepth 10000 in
theorem xX1_findSlot (a1 : Int32) (a2 : Int32) (σ : ST) : MS wlX yX1_findSlot cX1_findSlot 4 (some .int) rmX1_findSlot emI [.inr (some 3), .inl a1, .inl a2] σ (fX1_findSlot a1 a2 σ) := by
  refine MS.of (by decide +kernel) (Nat.le_of_ble_eq_true rfl) ?_
  show AW wlX yX1_findSlot cX1_findSlot 4 (some .int) rmX1_findSlot emI (fX1_findSlot a1 a2 σ) 0 [some (.inr (some 3)), some (.inl a1), some (.inl a2), none] [] σ
  unfold fX1_findSlot
  refine aw_iconst (pc := 0) (v := 0) dX1_findSlot_0 (by decide) ?_
  refine aw_stn (pc := 1) (L' := [some (.inr (some 3)), some (.inl a1), some (.inl a2), some (.inl 0)]) dX1_findSlot_1 rfl (by decide) rfl ?_
  exact aw_wk (wk_same (wk_same (wk_same (wk_same wk_nil)))) (xX1_findSlot_L2 FU a1 a2 0 σ)
abbrev rmX1_fits : Room := { frames := 1, cells := 0, slots := 0, locals := 23 }
noncomputable def fX1_fits_J32 (k2 : Nat → Int32 → ST → Option (Int32 × ST)) (l1 : Nat) (l2 : Int32) (σ : ST) : Option (Int32 × ST) :=
  bindv (l2 + 1) (fun v1 => k2 l1 v1 σ)
set_option maxRecDepth 10000 in
theorem xX1_fits_J32 (k2 : Nat → Int32 → ST → Option (Int32 × ST)) (hk2 : ∀ (l1 : Nat) (l2 : Int32) (σ : ST), AW wlX yX1_fits cX1_fits 3 (some .boolean) rmX1_fits emI (k2 l1 l2 σ) 2 [some (.inr (some 3)), some (.inr (some l1)), some (.inl l2)] [] σ) (l1 : Nat) (l2 : Int32) (σ : ST) : AW wlX yX1_fits cX1_fits 3 (some .boolean) rmX1_fits emI (fX1_fits_J32 k2 l1 l2 σ) 32 [some (.inr (some 3)), some (.inr (some l1)), some (.inl l2)] [] σ := by
  unfold fX1_fits_J32
  refine aw_iincB (pc := 32) (v := 1) (Lf := fun v1 => [some (.inr (some 3)), some (.inr (some l1)), some (.inl v1)]) dX1_fits_32 rfl (by decide) (by decide) (fun _ => rfl) (fun v1 => ?_)
  refine aw_goto (pc := 35) (tgt := 2) dX1_fits_35 (by decide) ?_
  exact aw_wk (wk_same (wk_same (wk_same wk_nil))) (hk2 l1 v1 σ)
noncomputable def fX1_fits_B2 (k2 : Nat → Int32 → ST → Option (Int32 × ST)) (l1 : Nat) (l2 : Int32) (σ : ST) : Option (Int32 × ST) :=
  if (σ.1 3 15) ≤ l2 then (some (1, σ)) else (if (isRw σ l1 && ib l2 20) = true then if (σ.1 l1 l2.toNatClampNeg) = (-5) then (fX1_fits_J32 k2 l1 l2 σ) else (if (isRw σ l1 && ib l2 20) = true then cb (fX1_findSlot l2 (σ.1 l1 l2.toNatClampNeg) σ) (fun r2 σ3 => if r2 = (-1) then (some (0, σ3)) else (fX1_fits_J32 k2 l1 l2 σ3)) else none) else none)
set_option maxRecDepth 10000 in
theorem xX1_fits_B2 (k2 : Nat → Int32 → ST → Option (Int32 × ST)) (hk2 : ∀ (l1 : Nat) (l2 : Int32) (σ : ST), AW wlX yX1_fits cX1_fits 3 (some .boolean) rmX1_fits emI (k2 l1 l2 σ) 2 [some (.inr (some 3)), some (.inr (some l1)), some (.inl l2)] [] σ) (l1 : Nat) (l2 : Int32) (σ : ST) : AW wlX yX1_fits cX1_fits 3 (some .boolean) rmX1_fits emI (fX1_fits_B2 k2 l1 l2 σ) 2 [some (.inr (some 3)), some (.inr (some l1)), some (.inl l2)] [] σ := by
  unfold fX1_fits_B2
  refine aw_iload_n (pc := 2) dX1_fits_2 rfl rfl ?_
  refine aw_aload_n (pc := 3) dX1_fits_3 rfl rfl ?_
  refine aw_get (pc := 4) (v := .inl (σ.1 3 15)) foX1_64 (atX3 _) rfl dX1_fits_4 ?_
  refine aw_icmp_ge (pc := 7) (tgt := 38) dX1_fits_7 (by decide) (fun _ => ?_) (fun _ => ?_)
  · refine aw_iconst (pc := 38) (v := 1) dX1_fits_38 (by decide) ?_
    exact aw_ret_i (pc := 39) rfl rfl rfl dX1_fits_39
  refine aw_aload_n (pc := 10) dX1_fits_10 rfl rfl ?_
  refine aw_iload_n (pc := 11) dX1_fits_11 rfl rfl ?_
  refine aw_ildR (pc := 12) dX1_fits_12 ?_
  refine aw_bipush (pc := 13) (v := (-5)) dX1_fits_13 (by decide) ?_
  refine aw_icmp_eq (pc := 15) (tgt := 32) dX1_fits_15 (by decide) (fun _ => ?_) (fun _ => ?_)
  · exact aw_wk (wk_same (wk_same (wk_same wk_nil))) (xX1_fits_J32 k2 hk2 l1 l2 σ)
  refine aw_aload_n (pc := 18) dX1_fits_18 rfl rfl ?_
  refine aw_iload_n (pc := 19) dX1_fits_19 rfl rfl ?_
  refine aw_aload_n (pc := 20) dX1_fits_20 rfl rfl ?_
  refine aw_iload_n (pc := 21) dX1_fits_21 rfl rfl ?_
  refine aw_ildR (pc := 22) dX1_fits_22 ?_
  refine aw_cVI (pc := 23) (st := []) (xX1_findSlot l2 (σ.1 l1 l2.toNatClampNeg) σ) (atX3 _) rfl ckX1_151 ⟨rfl, rfl, by decide, by decide⟩ (Nat.le_of_ble_eq_true rfl) dX1_fits_23 rfl (fun r2 σ3 => ?_)
  refine aw_iconst (pc := 26) (v := (-1)) dX1_fits_26 (by decide) ?_
  refine aw_icmp_ne (pc := 27) (tgt := 32) dX1_fits_27 (by decide) (fun _ => ?_) (fun _ => ?_)
  · refine aw_iconst (pc := 30) (v := 0) dX1_fits_30 (by decide) ?_
    exact aw_ret_i (pc := 31) rfl rfl rfl dX1_fits_31
  exact aw_wk (wk_same (wk_same (wk_same wk_nil))) (xX1_fits_J32 k2 hk2 l1 l2 σ3)
noncomputable def fX1_fits_L2 (n : Nat) (l1 : Nat) (l2 : Int32) (σ : ST) : Option (Int32 × ST) := loopN (α := Nat × Int32 × ST) (fun k a => fX1_fits_B2 (fun l1 l2 σ => k (l1, l2, σ)) a.1 a.2.1 a.2.2) n (l1, l2, σ)
theorem xX1_fits_L2 (n : Nat) (l1 : Nat) (l2 : Int32) (σ : ST) : AW wlX yX1_fits cX1_fits 3 (some .boolean) rmX1_fits emI (fX1_fits_L2 n l1 l2 σ) 2 [some (.inr (some 3)), some (.inr (some l1)), some (.inl l2)] [] σ :=
  aw_loop (α := Nat × Int32 × ST) (Lf := fun a => [some (.inr (some 3)), some (.inr (some (a.1))), some (.inl (a.2.1))]) (sf := fun a => a.2.2) (fun k hk a => by
    obtain ⟨l1, l2, σ⟩ := a
    exact xX1_fits_B2 (fun l1 l2 σ => k (l1, l2, σ)) (fun l1 l2 σ => hk (l1, l2, σ)) l1 l2 σ) n (l1, l2, σ)
noncomputable def fX1_fits (a1 : Nat) (σ : ST) : Option (Int32 × ST) :=
  fX1_fits_L2 FU a1 0 σ
set_option maxRecDepth 10000 in
theorem xX1_fits (a1 : Nat) (σ : ST) : MS wlX yX1_fits cX1_fits 3 (some .boolean) rmX1_fits emI [.inr (some 3), .inr (some a1)] σ (fX1_fits a1 σ) := by
  refine MS.of (by decide +kernel) (Nat.le_of_ble_eq_true rfl) ?_
  show AW wlX yX1_fits cX1_fits 3 (some .boolean) rmX1_fits emI (fX1_fits a1 σ) 0 [some (.inr (some 3)), some (.inr (some a1)), none] [] σ
  unfold fX1_fits
  refine aw_iconst (pc := 0) (v := 0) dX1_fits_0 (by decide) ?_
  refine aw_stn (pc := 1) (L' := [some (.inr (some 3)), some (.inr (some a1)), some (.inl 0)]) dX1_fits_1 rfl (by decide) rfl ?_
  exact aw_wk (wk_same (wk_same (wk_same wk_nil))) (xX1_fits_L2 FU a1 0 σ)
abbrev rmX1_ticksBetween : Room := { frames := 0, cells := 0, slots := 0, locals := 0 }
noncomputable def fX1_ticksBetween (a1 : Int32) (a2 : Int32) (σ : ST) : Option (Int32 × ST) :=
  bindv (σ.2.1 3 12) (fun q1 => q1.elim (some (0, σ)) (fun k2 => bindv (σ.2.1 3 12) (fun q3 => q3.elim none (fun k4 => if isDr σ k4 = true then if (isRw σ ((k4 + 3)) && ib a2 20) = true then bindv (σ.2.1 3 12) (fun q5 => q5.elim none (fun k6 => if isDr σ k6 = true then if (isRw σ ((k6 + 3)) && ib a1 20) = true then some (((σ.1 ((k4 + 3)) a2.toNatClampNeg) - (σ.1 ((k6 + 3)) a1.toNatClampNeg)), σ) else none else none)) else none else none))))
set_option maxRecDepth 10000 in
theorem xX1_ticksBetween (a1 : Int32) (a2 : Int32) (σ : ST) : MS wlX yX1_ticksBetween cX1_ticksBetween 3 (some .int) rmX1_ticksBetween emI [.inr (some 3), .inl a1, .inl a2] σ (fX1_ticksBetween a1 a2 σ) := by
  refine MS.of (by decide +kernel) (Nat.le_of_ble_eq_true rfl) ?_
  show AW wlX yX1_ticksBetween cX1_ticksBetween 3 (some .int) rmX1_ticksBetween emI (fX1_ticksBetween a1 a2 σ) 0 [some (.inr (some 3)), some (.inl a1), some (.inl a2)] [] σ
  unfold fX1_ticksBetween
  refine aw_aload_n (pc := 0) dX1_ticksBetween_0 rfl rfl ?_
  refine aw_getQ (pc := 1) foX1_51 (atX3 _) rfl dX1_ticksBetween_1 (fun q1 => ?_)
  refine aw_elimN (pc := 4) (tgt := 11) dX1_ticksBetween_4 (by decide) (fun _ => ?_) (fun k2 hk2 => ?_)
  · refine aw_iconst (pc := 7) (v := 0) dX1_ticksBetween_7 (by decide) ?_
    refine aw_goto (pc := 8) (tgt := 30) dX1_ticksBetween_8 (by decide) ?_
    exact aw_ret_i (pc := 30) rfl rfl rfl dX1_ticksBetween_30
  subst hk2
  refine aw_aload_n (pc := 11) dX1_ticksBetween_11 rfl rfl ?_
  refine aw_getQ (pc := 12) foX1_51 (atX3 _) rfl dX1_ticksBetween_12 (fun q3 => ?_)
  refine aw_deref (fun k4 hk4 => ?_)
  subst hk4
  refine aw_getD (pc := 15) (v := .inr (some ((k4 + 3)))) foX1_85 rfl dX1_ticksBetween_15 ?_
  refine aw_iload_n (pc := 18) dX1_ticksBetween_18 rfl rfl ?_
  refine aw_ildR (pc := 19) dX1_ticksBetween_19 ?_
  refine aw_aload_n (pc := 20) dX1_ticksBetween_20 rfl rfl ?_
  refine aw_getQ (pc := 21) foX1_51 (atX3 _) rfl dX1_ticksBetween_21 (fun q5 => ?_)
  refine aw_deref (fun k6 hk6 => ?_)
  subst hk6
  refine aw_getD (pc := 24) (v := .inr (some ((k6 + 3)))) foX1_85 rfl dX1_ticksBetween_24 ?_
  refine aw_iload_n (pc := 27) dX1_ticksBetween_27 rfl rfl ?_
  refine aw_ildR (pc := 28) dX1_ticksBetween_28 ?_
  refine aw_isub (pc := 29) dX1_ticksBetween_29 ?_
  exact aw_ret_i (pc := 30) rfl rfl rfl dX1_ticksBetween_30
abbrev rmX1_costOfRow : Room := { frames := 4, cells := 0, slots := 0, locals := 101 }
noncomputable def fX1_costOfRow_J101 (k7 : Nat → Int32 → Int32 → Int32 → ST → Option (Int32 × ST)) (l1 : Nat) (l2 : Int32) (l3 : Int32) (l4 : Int32) (σ : ST) : Option (Int32 × ST) :=
  bindv (l4 + 1) (fun v4 => k7 l1 l2 l3 v4 σ)
set_option maxRecDepth 10000 in
theorem xX1_costOfRow_J101 (k7 : Nat → Int32 → Int32 → Int32 → ST → Option (Int32 × ST)) (hk7 : ∀ (l1 : Nat) (l2 : Int32) (l3 : Int32) (l4 : Int32) (σ : ST), AW wlX yX1_costOfRow cX1_costOfRow 7 (some .int) rmX1_costOfRow emI (k7 l1 l2 l3 l4 σ) 7 [some (.inr (some 3)), some (.inr (some l1)), some (.inl l2), some (.inl l3), some (.inl l4), none, none] [] σ) (l1 : Nat) (l2 : Int32) (l3 : Int32) (l4 : Int32) (σ : ST) : AW wlX yX1_costOfRow cX1_costOfRow 7 (some .int) rmX1_costOfRow emI (fX1_costOfRow_J101 k7 l1 l2 l3 l4 σ) 101 [some (.inr (some 3)), some (.inr (some l1)), some (.inl l2), some (.inl l3), some (.inl l4), none, none] [] σ := by
  unfold fX1_costOfRow_J101
  refine aw_iincB (pc := 101) (v := 1) (Lf := fun v4 => [some (.inr (some 3)), some (.inr (some l1)), some (.inl l2), some (.inl l3), some (.inl v4), none, none]) dX1_costOfRow_101 rfl (by decide) (by decide) (fun _ => rfl) (fun v4 => ?_)
  refine aw_goto (pc := 104) (tgt := 7) dX1_costOfRow_104 (by decide) ?_
  exact aw_wk (wk_same (wk_same (wk_same (wk_same (wk_same (wk_none (wk_none wk_nil))))))) (hk7 l1 l2 l3 v4 σ)
noncomputable def fX1_costOfRow_J98 (k7 : Nat → Int32 → Int32 → Int32 → ST → Option (Int32 × ST)) (l1 : Nat) (l2 : Int32) (l4 : Int32) (σ : ST) : Option (Int32 × ST) :=
  fX1_costOfRow_J101 k7 l1 l2 l4 l4 σ
set_option maxRecDepth 10000 in
theorem xX1_costOfRow_J98 (k7 : Nat → Int32 → Int32 → Int32 → ST → Option (Int32 × ST)) (hk7 : ∀ (l1 : Nat) (l2 : Int32) (l3 : Int32) (l4 : Int32) (σ : ST), AW wlX yX1_costOfRow cX1_costOfRow 7 (some .int) rmX1_costOfRow emI (k7 l1 l2 l3 l4 σ) 7 [some (.inr (some 3)), some (.inr (some l1)), some (.inl l2), some (.inl l3), some (.inl l4), none, none] [] σ) (l1 : Nat) (l2 : Int32) (l4 : Int32) (σ : ST) : AW wlX yX1_costOfRow cX1_costOfRow 7 (some .int) rmX1_costOfRow emI (fX1_costOfRow_J98 k7 l1 l2 l4 σ) 98 [some (.inr (some 3)), some (.inr (some l1)), some (.inl l2), none, some (.inl l4), none, none] [] σ := by
  unfold fX1_costOfRow_J98
  refine aw_iload (pc := 98) dX1_costOfRow_98 rfl ?_
  refine aw_stn (pc := 100) (L' := [some (.inr (some 3)), some (.inr (some l1)), some (.inl l2), some (.inl l4), some (.inl l4), none, none]) dX1_costOfRow_100 rfl (by decide) rfl ?_
  exact aw_wk (wk_same (wk_same (wk_same (wk_same (wk_same (wk_none (wk_none wk_nil))))))) (xX1_costOfRow_J101 k7 hk7 l1 l2 l4 l4 σ)
noncomputable def fX1_costOfRow_B7 (k7 : Nat → Int32 → Int32 → Int32 → ST → Option (Int32 × ST)) (l1 : Nat) (l2 : Int32) (l3 : Int32) (l4 : Int32) (σ : ST) : Option (Int32 × ST) :=
  if (σ.1 3 15) ≤ l4 then (some (l2, σ)) else (if (isRw σ l1 && ib l4 20) = true then cb (fX1_findSlot l4 (σ.1 l1 l4.toNatClampNeg) σ) (fun r1 σ2 => if r1 = (-1) then (bindv (l2 + (σ2.1 3 1)) (fun v3 => fX1_costOfRow_J101 k7 l1 v3 l3 l4 σ2)) else (if ib r1 200 = true then bindv (l2 + (σ2.1 21 r1.toNatClampNeg)) (fun v5 => if l3 = (-1) then (fX1_costOfRow_J98 k7 l1 v5 l4 σ2) else (if (isRw σ2 l1 && ib l3 20) = true then if (isRw σ2 l1 && ib l4 20) = true then cb (fX1_ticksBetween l3 l4 σ2) (fun r6 σ7 => cb (fX1_longestLeg r6 σ7) (fun r8 σ9 => cb (fX1_legLength (σ2.1 l1 l3.toNatClampNeg) (σ2.1 l1 l4.toNatClampNeg) r8 σ9) (fun r10 σ11 => if 0 ≤ r10 then (bindv (v5 + (r10 / 4)) (fun v12 => fX1_costOfRow_J98 k7 l1 v12 l4 σ11)) else (some ((-4), σ11))))) else none else none)) else none)) else none)
set_option maxRecDepth 10000 in
theorem xX1_costOfRow_B7 (k7 : Nat → Int32 → Int32 → Int32 → ST → Option (Int32 × ST)) (hk7 : ∀ (l1 : Nat) (l2 : Int32) (l3 : Int32) (l4 : Int32) (σ : ST), AW wlX yX1_costOfRow cX1_costOfRow 7 (some .int) rmX1_costOfRow emI (k7 l1 l2 l3 l4 σ) 7 [some (.inr (some 3)), some (.inr (some l1)), some (.inl l2), some (.inl l3), some (.inl l4), none, none] [] σ) (l1 : Nat) (l2 : Int32) (l3 : Int32) (l4 : Int32) (σ : ST) : AW wlX yX1_costOfRow cX1_costOfRow 7 (some .int) rmX1_costOfRow emI (fX1_costOfRow_B7 k7 l1 l2 l3 l4 σ) 7 [some (.inr (some 3)), some (.inr (some l1)), some (.inl l2), some (.inl l3), some (.inl l4), none, none] [] σ := by
  unfold fX1_costOfRow_B7
  refine aw_iload (pc := 7) dX1_costOfRow_7 rfl ?_
  refine aw_aload_n (pc := 9) dX1_costOfRow_9 rfl rfl ?_
  refine aw_get (pc := 10) (v := .inl (σ.1 3 15)) foX1_64 (atX3 _) rfl dX1_costOfRow_10 ?_
  refine aw_icmp_ge (pc := 13) (tgt := 107) dX1_costOfRow_13 (by decide) (fun _ => ?_) (fun _ => ?_)
  · refine aw_iload_n (pc := 107) dX1_costOfRow_107 rfl rfl ?_
    exact aw_ret_i (pc := 108) rfl rfl rfl dX1_costOfRow_108
  refine aw_aload_n (pc := 16) dX1_costOfRow_16 rfl rfl ?_
  refine aw_iload (pc := 17) dX1_costOfRow_17 rfl ?_
  refine aw_aload_n (pc := 19) dX1_costOfRow_19 rfl rfl ?_
  refine aw_iload (pc := 20) dX1_costOfRow_20 rfl ?_
  refine aw_ildR (pc := 22) dX1_costOfRow_22 ?_
  refine aw_cVI (pc := 23) (st := []) (xX1_findSlot l4 (σ.1 l1 l4.toNatClampNeg) σ) (atX3 _) rfl ckX1_151 ⟨rfl, rfl, by decide, by decide⟩ (Nat.le_of_ble_eq_true rfl) dX1_costOfRow_23 rfl (fun r1 σ2 => ?_)
  refine aw_st (pc := 26) (L' := [some (.inr (some 3)), some (.inr (some l1)), some (.inl l2), some (.inl l3), some (.inl l4), some (.inl r1), none]) dX1_costOfRow_26 (by decide) rfl ?_
  refine aw_iload (pc := 28) dX1_costOfRow_28 rfl ?_
  refine aw_iconst (pc := 30) (v := (-1)) dX1_costOfRow_30 (by decide) ?_
  refine aw_icmp_ne (pc := 31) (tgt := 44) dX1_costOfRow_31 (by decide) (fun _ => ?_) (fun _ => ?_)
  · refine aw_iload_n (pc := 34) dX1_costOfRow_34 rfl rfl ?_
    refine aw_aload_n (pc := 35) dX1_costOfRow_35 rfl rfl ?_
    refine aw_get (pc := 36) (v := .inl (σ2.1 3 1)) foX1_15 (atX3 _) rfl dX1_costOfRow_36 ?_
    refine aw_iadd (pc := 39) dX1_costOfRow_39 ?_
    refine aw_stnB (pc := 40) (Lf := fun v3 => [some (.inr (some 3)), some (.inr (some l1)), some (.inl v3), some (.inl l3), some (.inl l4), some (.inl r1), none]) dX1_costOfRow_40 rfl (by decide) (fun _ => rfl) (fun v3 => ?_)
    refine aw_goto (pc := 41) (tgt := 101) dX1_costOfRow_41 (by decide) ?_
    exact aw_wk (wk_same (wk_same (wk_same (wk_same (wk_same (wk_none (wk_none wk_nil))))))) (xX1_costOfRow_J101 k7 hk7 l1 v3 l3 l4 σ2)
  refine aw_iload_n (pc := 44) dX1_costOfRow_44 rfl rfl ?_
  refine aw_aload_n (pc := 45) dX1_costOfRow_45 rfl rfl ?_
  refine aw_get (pc := 46) (v := .inr (some 21)) foX1_28 (atX3 _) rfl dX1_costOfRow_46 ?_
  refine aw_iload (pc := 49) dX1_costOfRow_49 rfl ?_
  refine aw_iald' (pc := 51) (atX21 _) dX1_costOfRow_51 ?_
  refine aw_iadd (pc := 52) dX1_costOfRow_52 ?_
  refine aw_stnB (pc := 53) (Lf := fun v5 => [some (.inr (some 3)), some (.inr (some l1)), some (.inl v5), some (.inl l3), some (.inl l4), some (.inl r1), none]) dX1_costOfRow_53 rfl (by decide) (fun _ => rfl) (fun v5 => ?_)
  refine aw_iload_n (pc := 54) dX1_costOfRow_54 rfl rfl ?_
  refine aw_iconst (pc := 55) (v := (-1)) dX1_costOfRow_55 (by decide) ?_
  refine aw_icmp_eq (pc := 56) (tgt := 98) dX1_costOfRow_56 (by decide) (fun _ => ?_) (fun _ => ?_)
  · exact aw_wk (wk_same (wk_same (wk_same (wk_none (wk_same (wk_none (wk_none wk_nil))))))) (xX1_costOfRow_J98 k7 hk7 l1 v5 l4 σ2)
  refine aw_aload_n (pc := 59) dX1_costOfRow_59 rfl rfl ?_
  refine aw_aload_n (pc := 60) dX1_costOfRow_60 rfl rfl ?_
  refine aw_iload_n (pc := 61) dX1_costOfRow_61 rfl rfl ?_
  refine aw_ildR (pc := 62) dX1_costOfRow_62 ?_
  refine aw_aload_n (pc := 63) dX1_costOfRow_63 rfl rfl ?_
  refine aw_iload (pc := 64) dX1_costOfRow_64 rfl ?_
  refine aw_ildR (pc := 66) dX1_costOfRow_66 ?_
  refine aw_aload_n (pc := 67) dX1_costOfRow_67 rfl rfl ?_
  refine aw_aload_n (pc := 68) dX1_costOfRow_68 rfl rfl ?_
  refine aw_iload_n (pc := 69) dX1_costOfRow_69 rfl rfl ?_
  refine aw_iload (pc := 70) dX1_costOfRow_70 rfl ?_
  refine aw_cVI (pc := 72) (st := [.inr (some 3), .inl (σ2.1 l1 l4.toNatClampNeg), .inl (σ2.1 l1 l3.toNatClampNeg), .inr (some 3)]) (xX1_ticksBetween l3 l4 σ2) (atX3 _) rfl ckX1_154 ⟨rfl, rfl, by decide, by decide⟩ (Nat.le_of_ble_eq_true rfl) dX1_costOfRow_72 rfl (fun r6 σ7 => ?_)
  refine aw_cVI (pc := 75) (st := [.inl (σ2.1 l1 l4.toNatClampNeg), .inl (σ2.1 l1 l3.toNatClampNeg), .inr (some 3)]) (xX1_longestLeg r6 σ7) (atX3 _) rfl ckX1_115 ⟨rfl, rfl, by decide, by decide⟩ (Nat.le_of_ble_eq_true rfl) dX1_costOfRow_75 rfl (fun r8 σ9 => ?_)
  refine aw_cVI (pc := 78) (st := []) (xX1_legLength (σ2.1 l1 l3.toNatClampNeg) (σ2.1 l1 l4.toNatClampNeg) r8 σ9) (atX3 _) rfl ckX1_118 ⟨rfl, rfl, by decide, by decide⟩ (Nat.le_of_ble_eq_true rfl) dX1_costOfRow_78 rfl (fun r10 σ11 => ?_)
  refine aw_st (pc := 81) (L' := [some (.inr (some 3)), some (.inr (some l1)), some (.inl v5), some (.inl l3), some (.inl l4), some (.inl r1), some (.inl r10)]) dX1_costOfRow_81 (by decide) rfl ?_
  refine aw_iload (pc := 83) dX1_costOfRow_83 rfl ?_
  refine aw_if_ge (pc := 85) (tgt := 91) dX1_costOfRow_85 (by decide) (fun _ => ?_) (fun _ => ?_)
  · refine aw_iload_n (pc := 91) dX1_costOfRow_91 rfl rfl ?_
    refine aw_iload (pc := 92) dX1_costOfRow_92 rfl ?_
    refine aw_iconst (pc := 94) (v := 4) dX1_costOfRow_94 (by decide) ?_
    refine aw_idiv (pc := 95) dX1_costOfRow_95 (by decide) ?_
    refine aw_iadd (pc := 96) dX1_costOfRow_96 ?_
    refine aw_stnB (pc := 97) (Lf := fun v12 => [some (.inr (some 3)), some (.inr (some l1)), some (.inl v12), some (.inl l3), some (.inl l4), some (.inl r1), some (.inl r10)]) dX1_costOfRow_97 rfl (by decide) (fun _ => rfl) (fun v12 => ?_)
    exact aw_wk (wk_same (wk_same (wk_same (wk_none (wk_same (wk_none (wk_none wk_nil))))))) (xX1_costOfRow_J98 k7 hk7 l1 v12 l4 σ11)
  refine aw_bipush (pc := 88) (v := (-4)) dX1_costOfRow_88 (by decide) ?_
  exact aw_ret_i (pc := 90) rfl rfl rfl dX1_costOfRow_90
noncomputable def fX1_costOfRow_L7 (n : Nat) (l1 : Nat) (l2 : Int32) (l3 : Int32) (l4 : Int32) (σ : ST) : Option (Int32 × ST) := loopN (α := Nat × Int32 × Int32 × Int32 × ST) (fun k a => fX1_costOfRow_B7 (fun l1 l2 l3 l4 σ => k (l1, l2, l3, l4, σ)) a.1 a.2.1 a.2.2.1 a.2.2.2.1 a.2.2.2.2) n (l1, l2, l3, l4, σ)
theorem xX1_costOfRow_L7 (n : Nat) (l1 : Nat) (l2 : Int32) (l3 : Int32) (l4 : Int32) (σ : ST) : AW wlX yX1_costOfRow cX1_costOfRow 7 (some .int) rmX1_costOfRow emI (fX1_costOfRow_L7 n l1 l2 l3 l4 σ) 7 [some (.inr (some 3)), some (.inr (some l1)), some (.inl l2), some (.inl l3), some (.inl l4), none, none] [] σ :=
  aw_loop (α := Nat × Int32 × Int32 × Int32 × ST) (Lf := fun a => [some (.inr (some 3)), some (.inr (some (a.1))), some (.inl (a.2.1)), some (.inl (a.2.2.1)), some (.inl (a.2.2.2.1)), none, none]) (sf := fun a => a.2.2.2.2) (fun k hk a => by
    obtain ⟨l1, l2, l3, l4, σ⟩ := a
    exact xX1_costOfRow_B7 (fun l1 l2 l3 l4 σ => k (l1, l2, l3, l4, σ)) (fun l1 l2 l3 l4 σ => hk (l1, l2, l3, l4, σ)) l1 l2 l3 l4 σ) n (l1, l2, l3, l4, σ)
noncomputable def fX1_costOfRow (a1 : Nat) (σ : ST) : Option (Int32 × ST) :=
  fX1_costOfRow_L7 FU a1 0 (-1) 0 σ
set_option maxRecDepth 10000 in
theorem xX1_costOfRow (a1 : Nat) (σ : ST) : MS wlX yX1_costOfRow cX1_costOfRow 7 (some .int) rmX1_costOfRow emI [.inr (some 3), .inr (some a1)] σ (fX1_costOfRow a1 σ) := by
  refine MS.of (by decide +kernel) (Nat.le_of_ble_eq_true rfl) ?_
  show AW wlX yX1_costOfRow cX1_costOfRow 7 (some .int) rmX1_costOfRow emI (fX1_costOfRow a1 σ) 0 [some (.inr (some 3)), some (.inr (some a1)), none, none, none, none, none] [] σ
  unfold fX1_costOfRow
  refine aw_iconst (pc := 0) (v := 0) dX1_costOfRow_0 (by decide) ?_
  refine aw_stn (pc := 1) (L' := [some (.inr (some 3)), some (.inr (some a1)), some (.inl 0), none, none, none, none]) dX1_costOfRow_1 rfl (by decide) rfl ?_
  refine aw_iconst (pc := 2) (v := (-1)) dX1_costOfRow_2 (by decide) ?_
  refine aw_stn (pc := 3) (L' := [some (.inr (some 3)), some (.inr (some a1)), some (.inl 0), some (.inl (-1)), none, none, none]) dX1_costOfRow_3 rfl (by decide) rfl ?_
  refine aw_iconst (pc := 4) (v := 0) dX1_costOfRow_4 (by decide) ?_
  refine aw_st (pc := 5) (L' := [some (.inr (some 3)), some (.inr (some a1)), some (.inl 0), some (.inl (-1)), some (.inl 0), none, none]) dX1_costOfRow_5 (by decide) rfl ?_
  exact aw_wk (wk_same (wk_same (wk_same (wk_same (wk_same (wk_none (wk_none wk_nil))))))) (xX1_costOfRow_L7 FU a1 0 (-1) 0 σ)
abbrev rmX1_nextNotLeft : Room := { frames := 0, cells := 0, slots := 0, locals := 0 }
noncomputable def fX1_nextNotLeft_B4 (k4 : Int32 → ST → Option (Int32 × ST)) (l2 : Int32) (σ : ST) : Option (Int32 × ST) :=
  if (σ.1 3 15) ≤ l2 then (some ((-1), σ)) else (if ib l2 20 = true then if (σ.1 20 l2.toNatClampNeg) = (-5) then (bindv (l2 + 1) (fun v2 => k4 v2 σ)) else (some (l2, σ)) else none)
set_option maxRecDepth 10000 in
theorem xX1_nextNotLeft_B4 (k4 : Int32 → ST → Option (Int32 × ST)) (hk4 : ∀ (l2 : Int32) (σ : ST), AW wlX yX1_nextNotLeft cX1_nextNotLeft 3 (some .int) rmX1_nextNotLeft emI (k4 l2 σ) 4 [some (.inr (some 3)), none, some (.inl l2)] [] σ) (l2 : Int32) (σ : ST) : AW wlX yX1_nextNotLeft cX1_nextNotLeft 3 (some .int) rmX1_nextNotLeft emI (fX1_nextNotLeft_B4 k4 l2 σ) 4 [some (.inr (some 3)), none, some (.inl l2)] [] σ := by
  unfold fX1_nextNotLeft_B4
  refine aw_iload_n (pc := 4) dX1_nextNotLeft_4 rfl rfl ?_
  refine aw_aload_n (pc := 5) dX1_nextNotLeft_5 rfl rfl ?_
  refine aw_get (pc := 6) (v := .inl (σ.1 3 15)) foX1_64 (atX3 _) rfl dX1_nextNotLeft_6 ?_
  refine aw_icmp_ge (pc := 9) (tgt := 31) dX1_nextNotLeft_9 (by decide) (fun _ => ?_) (fun _ => ?_)
  · refine aw_iconst (pc := 31) (v := (-1)) dX1_nextNotLeft_31 (by decide) ?_
    exact aw_ret_i (pc := 32) rfl rfl rfl dX1_nextNotLeft_32
  refine aw_aload_n (pc := 12) dX1_nextNotLeft_12 rfl rfl ?_
  refine aw_get (pc := 13) (v := .inr (some 20)) foX1_25 (atX3 _) rfl dX1_nextNotLeft_13 ?_
  refine aw_iload_n (pc := 16) dX1_nextNotLeft_16 rfl rfl ?_
  refine aw_iald' (pc := 17) (atX20 _) dX1_nextNotLeft_17 ?_
  refine aw_bipush (pc := 18) (v := (-5)) dX1_nextNotLeft_18 (by decide) ?_
  refine aw_icmp_eq (pc := 20) (tgt := 25) dX1_nextNotLeft_20 (by decide) (fun _ => ?_) (fun _ => ?_)
  · refine aw_iincB (pc := 25) (v := 1) (Lf := fun v2 => [some (.inr (some 3)), none, some (.inl v2)]) dX1_nextNotLeft_25 rfl (by decide) (by decide) (fun _ => rfl) (fun v2 => ?_)
    refine aw_goto (pc := 28) (tgt := 4) dX1_nextNotLeft_28 (by decide) ?_
    exact aw_wk (wk_same (wk_none (wk_same wk_nil))) (hk4 v2 σ)
  refine aw_iload_n (pc := 23) dX1_nextNotLeft_23 rfl rfl ?_
  exact aw_ret_i (pc := 24) rfl rfl rfl dX1_nextNotLeft_24
noncomputable def fX1_nextNotLeft_L4 (n : Nat) (l2 : Int32) (σ : ST) : Option (Int32 × ST) := loopN (α := Int32 × ST) (fun k a => fX1_nextNotLeft_B4 (fun l2 σ => k (l2, σ)) a.1 a.2) n (l2, σ)
theorem xX1_nextNotLeft_L4 (n : Nat) (l2 : Int32) (σ : ST) : AW wlX yX1_nextNotLeft cX1_nextNotLeft 3 (some .int) rmX1_nextNotLeft emI (fX1_nextNotLeft_L4 n l2 σ) 4 [some (.inr (some 3)), none, some (.inl l2)] [] σ :=
  aw_loop (α := Int32 × ST) (Lf := fun a => [some (.inr (some 3)), none, some (.inl (a.1))]) (sf := fun a => a.2) (fun k hk a => by
    obtain ⟨l2, σ⟩ := a
    exact xX1_nextNotLeft_B4 (fun l2 σ => k (l2, σ)) (fun l2 σ => hk (l2, σ)) l2 σ) n (l2, σ)
noncomputable def fX1_nextNotLeft (a1 : Int32) (σ : ST) : Option (Int32 × ST) :=
  bindv (a1 + 1) (fun v1 => fX1_nextNotLeft_L4 FU v1 σ)
set_option maxRecDepth 10000 in
theorem xX1_nextNotLeft (a1 : Int32) (σ : ST) : MS wlX yX1_nextNotLeft cX1_nextNotLeft 3 (some .int) rmX1_nextNotLeft emI [.inr (some 3), .inl a1] σ (fX1_nextNotLeft a1 σ) := by
  refine MS.of (by decide +kernel) (Nat.le_of_ble_eq_true rfl) ?_
  show AW wlX yX1_nextNotLeft cX1_nextNotLeft 3 (some .int) rmX1_nextNotLeft emI (fX1_nextNotLeft a1 σ) 0 [some (.inr (some 3)), some (.inl a1), none] [] σ
  unfold fX1_nextNotLeft
  refine aw_iload_n (pc := 0) dX1_nextNotLeft_0 rfl rfl ?_
  refine aw_iconst (pc := 1) (v := 1) dX1_nextNotLeft_1 (by decide) ?_
  refine aw_iadd (pc := 2) dX1_nextNotLeft_2 ?_
  refine aw_stnB (pc := 3) (Lf := fun v1 => [some (.inr (some 3)), some (.inl a1), some (.inl v1)]) dX1_nextNotLeft_3 rfl (by decide) (fun _ => rfl) (fun v1 => ?_)
  exact aw_wk (wk_same (wk_none (wk_same wk_nil))) (xX1_nextNotLeft_L4 FU v1 σ)
abbrev rmX1_feesOfLeastRow : Room := { frames := 3, cells := 0, slots := 0, locals := 77 }
noncomputable def fX1_feesOfLeastRow_J75 (k4 : Int32 → Int32 → ST → Option (Int32 × ST)) (l1 : Int32) (l2 : Int32) (σ : ST) : Option (Int32 × ST) :=
  bindv (l2 + 1) (fun v3 => k4 l1 v3 σ)
set_option maxRecDepth 10000 in
theorem xX1_feesOfLeastRow_J75 (k4 : Int32 → Int32 → ST → Option (Int32 × ST)) (hk4 : ∀ (l1 : Int32) (l2 : Int32) (σ : ST), AW wlX yX1_feesOfLeastRow cX1_feesOfLeastRow 5 (some .int) rmX1_feesOfLeastRow emI (k4 l1 l2 σ) 4 [some (.inr (some 3)), some (.inl l1), some (.inl l2), none, none] [] σ) (l1 : Int32) (l2 : Int32) (σ : ST) : AW wlX yX1_feesOfLeastRow cX1_feesOfLeastRow 5 (some .int) rmX1_feesOfLeastRow emI (fX1_feesOfLeastRow_J75 k4 l1 l2 σ) 75 [some (.inr (some 3)), some (.inl l1), some (.inl l2), none, none] [] σ := by
  unfold fX1_feesOfLeastRow_J75
  refine aw_iincB (pc := 75) (v := 1) (Lf := fun v3 => [some (.inr (some 3)), some (.inl l1), some (.inl v3), none, none]) dX1_feesOfLeastRow_75 rfl (by decide) (by decide) (fun _ => rfl) (fun v3 => ?_)
  refine aw_goto (pc := 78) (tgt := 4) dX1_feesOfLeastRow_78 (by decide) ?_
  exact aw_wk (wk_same (wk_same (wk_same (wk_none (wk_none wk_nil))))) (hk4 l1 v3 σ)
noncomputable def fX1_feesOfLeastRow_J73 (k4 : Int32 → Int32 → ST → Option (Int32 × ST)) (l2 : Int32) (s0 : Int32) (s1 : Int32) (σ : ST) : Option (Int32 × ST) :=
  bindv (s1 + s0) (fun v6 => fX1_feesOfLeastRow_J75 k4 v6 l2 σ)
set_option maxRecDepth 10000 in
theorem xX1_feesOfLeastRow_J73 (k4 : Int32 → Int32 → ST → Option (Int32 × ST)) (hk4 : ∀ (l1 : Int32) (l2 : Int32) (σ : ST), AW wlX yX1_feesOfLeastRow cX1_feesOfLeastRow 5 (some .int) rmX1_feesOfLeastRow emI (k4 l1 l2 σ) 4 [some (.inr (some 3)), some (.inl l1), some (.inl l2), none, none] [] σ) (l2 : Int32) (s0 : Int32) (s1 : Int32) (σ : ST) : AW wlX yX1_feesOfLeastRow cX1_feesOfLeastRow 5 (some .int) rmX1_feesOfLeastRow emI (fX1_feesOfLeastRow_J73 k4 l2 s0 s1 σ) 73 [some (.inr (some 3)), none, some (.inl l2), none, none] [.inl s0, .inl s1] σ := by
  unfold fX1_feesOfLeastRow_J73
  refine aw_iadd (pc := 73) dX1_feesOfLeastRow_73 ?_
  refine aw_stnB (pc := 74) (Lf := fun v6 => [some (.inr (some 3)), some (.inl v6), some (.inl l2), none, none]) dX1_feesOfLeastRow_74 rfl (by decide) (fun _ => rfl) (fun v6 => ?_)
  exact aw_wk (wk_same (wk_same (wk_same (wk_none (wk_none wk_nil))))) (xX1_feesOfLeastRow_J75 k4 hk4 v6 l2 σ)
noncomputable def fX1_feesOfLeastRow_B4 (k4 : Int32 → Int32 → ST → Option (Int32 × ST)) (l1 : Int32) (l2 : Int32) (σ : ST) : Option (Int32 × ST) :=
  if (σ.1 3 15) ≤ l2 then (some (l1, σ)) else (cb (fX1_nextNotLeft l2 σ) (fun r1 σ2 => if ib l2 20 = true then if (σ2.1 20 l2.toNatClampNeg) = (-5) then (fX1_feesOfLeastRow_J75 k4 l1 l2 σ2) else (if r1 = (-1) then (fX1_feesOfLeastRow_J75 k4 l1 l2 σ2) else (if ib l2 20 = true then if ib r1 20 = true then cb (fX3_least (σ2.1 20 l2.toNatClampNeg) (σ2.1 20 r1.toNatClampNeg) σ2) (fun r4 σ5 => if r4 = 2000000000 then (fX1_feesOfLeastRow_J73 k4 l2 0 l1 σ5) else (fX1_feesOfLeastRow_J73 k4 l2 (r4 - r4 / 10000 * 10000) l1 σ5)) else none else none)) else none))
set_option maxRecDepth 10000 in
theorem xX1_feesOfLeastRow_B4 (k4 : Int32 → Int32 → ST → Option (Int32 × ST)) (hk4 : ∀ (l1 : Int32) (l2 : Int32) (σ : ST), AW wlX yX1_feesOfLeastRow cX1_feesOfLeastRow 5 (some .int) rmX1_feesOfLeastRow emI (k4 l1 l2 σ) 4 [some (.inr (some 3)), some (.inl l1), some (.inl l2), none, none] [] σ) (l1 : Int32) (l2 : Int32) (σ : ST) : AW wlX yX1_feesOfLeastRow cX1_feesOfLeastRow 5 (some .int) rmX1_feesOfLeastRow emI (fX1_feesOfLeastRow_B4 k4 l1 l2 σ) 4 [some (.inr (some 3)), some (.inl l1), some (.inl l2), none, none] [] σ := by
  unfold fX1_feesOfLeastRow_B4
  refine aw_iload_n (pc := 4) dX1_feesOfLeastRow_4 rfl rfl ?_
  refine aw_aload_n (pc := 5) dX1_feesOfLeastRow_5 rfl rfl ?_
  refine aw_get (pc := 6) (v := .inl (σ.1 3 15)) foX1_64 (atX3 _) rfl dX1_feesOfLeastRow_6 ?_
  refine aw_icmp_ge (pc := 9) (tgt := 81) dX1_feesOfLeastRow_9 (by decide) (fun _ => ?_) (fun _ => ?_)
  · refine aw_iload_n (pc := 81) dX1_feesOfLeastRow_81 rfl rfl ?_
    exact aw_ret_i (pc := 82) rfl rfl rfl dX1_feesOfLeastRow_82
  refine aw_aload_n (pc := 12) dX1_feesOfLeastRow_12 rfl rfl ?_
  refine aw_iload_n (pc := 13) dX1_feesOfLeastRow_13 rfl rfl ?_
  refine aw_cVI (pc := 14) (st := []) (xX1_nextNotLeft l2 σ) (atX3 _) rfl ckX1_157 ⟨rfl, rfl, by decide, by decide⟩ (Nat.le_of_ble_eq_true rfl) dX1_feesOfLeastRow_14 rfl (fun r1 σ2 => ?_)
  refine aw_stn (pc := 17) (L' := [some (.inr (some 3)), some (.inl l1), some (.inl l2), some (.inl r1), none]) dX1_feesOfLeastRow_17 rfl (by decide) rfl ?_
  refine aw_aload_n (pc := 18) dX1_feesOfLeastRow_18 rfl rfl ?_
  refine aw_get (pc := 19) (v := .inr (some 20)) foX1_25 (atX3 _) rfl dX1_feesOfLeastRow_19 ?_
  refine aw_iload_n (pc := 22) dX1_feesOfLeastRow_22 rfl rfl ?_
  refine aw_iald' (pc := 23) (atX20 _) dX1_feesOfLeastRow_23 ?_
  refine aw_bipush (pc := 24) (v := (-5)) dX1_feesOfLeastRow_24 (by decide) ?_
  refine aw_icmp_eq (pc := 26) (tgt := 75) dX1_feesOfLeastRow_26 (by decide) (fun _ => ?_) (fun _ => ?_)
  · exact aw_wk (wk_same (wk_same (wk_same (wk_none (wk_none wk_nil))))) (xX1_feesOfLeastRow_J75 k4 hk4 l1 l2 σ2)
  refine aw_iload_n (pc := 29) dX1_feesOfLeastRow_29 rfl rfl ?_
  refine aw_iconst (pc := 30) (v := (-1)) dX1_feesOfLeastRow_30 (by decide) ?_
  refine aw_icmp_eq (pc := 31) (tgt := 75) dX1_feesOfLeastRow_31 (by decide) (fun _ => ?_) (fun _ => ?_)
  · exact aw_wk (wk_same (wk_same (wk_same (wk_none (wk_none wk_nil))))) (xX1_feesOfLeastRow_J75 k4 hk4 l1 l2 σ2)
  refine aw_aload_n (pc := 34) dX1_feesOfLeastRow_34 rfl rfl ?_
  refine aw_get (pc := 35) (v := .inr (some 2)) foX1_47 (atX3 _) rfl dX1_feesOfLeastRow_35 ?_
  refine aw_aload_n (pc := 38) dX1_feesOfLeastRow_38 rfl rfl ?_
  refine aw_get (pc := 39) (v := .inr (some 20)) foX1_25 (atX3 _) rfl dX1_feesOfLeastRow_39 ?_
  refine aw_iload_n (pc := 42) dX1_feesOfLeastRow_42 rfl rfl ?_
  refine aw_iald' (pc := 43) (atX20 _) dX1_feesOfLeastRow_43 ?_
  refine aw_aload_n (pc := 44) dX1_feesOfLeastRow_44 rfl rfl ?_
  refine aw_get (pc := 45) (v := .inr (some 20)) foX1_25 (atX3 _) rfl dX1_feesOfLeastRow_45 ?_
  refine aw_iload_n (pc := 48) dX1_feesOfLeastRow_48 rfl rfl ?_
  refine aw_iald' (pc := 49) (atX20 _) dX1_feesOfLeastRow_49 ?_
  refine aw_cVI (pc := 50) (st := []) (xX3_least (σ2.1 20 l2.toNatClampNeg) (σ2.1 20 r1.toNatClampNeg) σ2) (atX2 _) rfl ckX1_125 ⟨rfl, rfl, by decide, by decide⟩ (Nat.le_of_ble_eq_true rfl) dX1_feesOfLeastRow_50 rfl (fun r4 σ5 => ?_)
  refine aw_st (pc := 53) (L' := [some (.inr (some 3)), some (.inl l1), some (.inl l2), some (.inl r1), some (.inl r4)]) dX1_feesOfLeastRow_53 (by decide) rfl ?_
  refine aw_iload_n (pc := 55) dX1_feesOfLeastRow_55 rfl rfl ?_
  refine aw_iload (pc := 56) dX1_feesOfLeastRow_56 rfl ?_
  refine aw_ldc (pc := 58) lcX1_131 dX1_feesOfLeastRow_58 ?_
  refine aw_icmp_ne (pc := 60) (tgt := 67) dX1_feesOfLeastRow_60 (by decide) (fun _ => ?_) (fun _ => ?_)
  · refine aw_iconst (pc := 63) (v := 0) dX1_feesOfLeastRow_63 (by decide) ?_
    refine aw_goto (pc := 64) (tgt := 73) dX1_feesOfLeastRow_64 (by decide) ?_
    exact aw_wk (wk_same (wk_none (wk_same (wk_none (wk_none wk_nil))))) (xX1_feesOfLeastRow_J73 k4 hk4 l2 0 l1 σ5)
  refine aw_iload (pc := 67) dX1_feesOfLeastRow_67 rfl ?_
  refine aw_sipush (pc := 69) (v := 10000) dX1_feesOfLeastRow_69 (by decide) ?_
  refine aw_irem (pc := 72) dX1_feesOfLeastRow_72 (by decide) ?_
  exact aw_wk (wk_same (wk_none (wk_same (wk_none (wk_none wk_nil))))) (xX1_feesOfLeastRow_J73 k4 hk4 l2 (r4 - r4 / 10000 * 10000) l1 σ5)
noncomputable def fX1_feesOfLeastRow_L4 (n : Nat) (l1 : Int32) (l2 : Int32) (σ : ST) : Option (Int32 × ST) := loopN (α := Int32 × Int32 × ST) (fun k a => fX1_feesOfLeastRow_B4 (fun l1 l2 σ => k (l1, l2, σ)) a.1 a.2.1 a.2.2) n (l1, l2, σ)
theorem xX1_feesOfLeastRow_L4 (n : Nat) (l1 : Int32) (l2 : Int32) (σ : ST) : AW wlX yX1_feesOfLeastRow cX1_feesOfLeastRow 5 (some .int) rmX1_feesOfLeastRow emI (fX1_feesOfLeastRow_L4 n l1 l2 σ) 4 [some (.inr (some 3)), some (.inl l1), some (.inl l2), none, none] [] σ :=
  aw_loop (α := Int32 × Int32 × ST) (Lf := fun a => [some (.inr (some 3)), some (.inl (a.1)), some (.inl (a.2.1)), none, none]) (sf := fun a => a.2.2) (fun k hk a => by
    obtain ⟨l1, l2, σ⟩ := a
    exact xX1_feesOfLeastRow_B4 (fun l1 l2 σ => k (l1, l2, σ)) (fun l1 l2 σ => hk (l1, l2, σ)) l1 l2 σ) n (l1, l2, σ)
noncomputable def fX1_feesOfLeastRow (σ : ST) : Option (Int32 × ST) :=
  fX1_feesOfLeastRow_L4 FU 0 0 σ
set_option maxRecDepth 10000 in
theorem xX1_feesOfLeastRow (σ : ST) : MS wlX yX1_feesOfLeastRow cX1_feesOfLeastRow 5 (some .int) rmX1_feesOfLeastRow emI [.inr (some 3)] σ (fX1_feesOfLeastRow σ) := by
  refine MS.of (by decide +kernel) (Nat.le_of_ble_eq_true rfl) ?_
  show AW wlX yX1_feesOfLeastRow cX1_feesOfLeastRow 5 (some .int) rmX1_feesOfLeastRow emI (fX1_feesOfLeastRow σ) 0 [some (.inr (some 3)), none, none, none, none] [] σ
  unfold fX1_feesOfLeastRow
  refine aw_iconst (pc := 0) (v := 0) dX1_feesOfLeastRow_0 (by decide) ?_
  refine aw_stn (pc := 1) (L' := [some (.inr (some 3)), some (.inl 0), none, none, none]) dX1_feesOfLeastRow_1 rfl (by decide) rfl ?_
  refine aw_iconst (pc := 2) (v := 0) dX1_feesOfLeastRow_2 (by decide) ?_
  refine aw_stn (pc := 3) (L' := [some (.inr (some 3)), some (.inl 0), some (.inl 0), none, none]) dX1_feesOfLeastRow_3 rfl (by decide) rfl ?_
  exact aw_wk (wk_same (wk_same (wk_same (wk_none (wk_none wk_nil))))) (xX1_feesOfLeastRow_L4 FU 0 0 σ)
abbrev rmX1_speedBehind : Room := { frames := 3, cells := 0, slots := 0, locals := 77 }
noncomputable def fX1_speedBehind (a1 : Int32) (σ : ST) : Option (Int32 × ST) :=
  cb (fX1_nextNotLeft a1 σ) (fun r1 σ2 => if ib a1 20 = true then if (σ2.1 20 a1.toNatClampNeg) = (-5) then (some ((-3), σ2)) else (if r1 = (-1) then (some ((-3), σ2)) else (if ib a1 20 = true then if ib r1 20 = true then cb (fX3_least (σ2.1 20 a1.toNatClampNeg) (σ2.1 20 r1.toNatClampNeg) σ2) (fun r3 σ4 => cb (fX1_ticksBetween a1 r1 σ4) (fun r5 σ6 => if r3 = 2000000000 then (some ((-3), σ6)) else (if 0 < r5 then (if (4 * r5) = 0 then none else some (((r3 / 10000) / (4 * r5)), σ6)) else (some ((-3), σ6))))) else none else none)) else none)
set_option maxRecDepth 10000 in
theorem xX1_speedBehind (a1 : Int32) (σ : ST) : MS wlX yX1_speedBehind cX1_speedBehind 5 (some .int) rmX1_speedBehind emI [.inr (some 3), .inl a1] σ (fX1_speedBehind a1 σ) := by
  refine MS.of (by decide +kernel) (Nat.le_of_ble_eq_true rfl) ?_
  show AW wlX yX1_speedBehind cX1_speedBehind 5 (some .int) rmX1_speedBehind emI (fX1_speedBehind a1 σ) 0 [some (.inr (some 3)), some (.inl a1), none, none, none] [] σ
  unfold fX1_speedBehind
  refine aw_aload_n (pc := 0) dX1_speedBehind_0 rfl rfl ?_
  refine aw_iload_n (pc := 1) dX1_speedBehind_1 rfl rfl ?_
  refine aw_cVI (pc := 2) (st := []) (xX1_nextNotLeft a1 σ) (atX3 _) rfl ckX1_157 ⟨rfl, rfl, by decide, by decide⟩ (Nat.le_of_ble_eq_true rfl) dX1_speedBehind_2 rfl (fun r1 σ2 => ?_)
  refine aw_stn (pc := 5) (L' := [some (.inr (some 3)), some (.inl a1), some (.inl r1), none, none]) dX1_speedBehind_5 rfl (by decide) rfl ?_
  refine aw_aload_n (pc := 6) dX1_speedBehind_6 rfl rfl ?_
  refine aw_get (pc := 7) (v := .inr (some 20)) foX1_25 (atX3 _) rfl dX1_speedBehind_7 ?_
  refine aw_iload_n (pc := 10) dX1_speedBehind_10 rfl rfl ?_
  refine aw_iald' (pc := 11) (atX20 _) dX1_speedBehind_11 ?_
  refine aw_bipush (pc := 12) (v := (-5)) dX1_speedBehind_12 (by decide) ?_
  refine aw_icmp_eq (pc := 14) (tgt := 22) dX1_speedBehind_14 (by decide) (fun _ => ?_) (fun _ => ?_)
  · refine aw_bipush (pc := 22) (v := (-3)) dX1_speedBehind_22 (by decide) ?_
    exact aw_ret_i (pc := 24) rfl rfl rfl dX1_speedBehind_24
  refine aw_iload_n (pc := 17) dX1_speedBehind_17 rfl rfl ?_
  refine aw_iconst (pc := 18) (v := (-1)) dX1_speedBehind_18 (by decide) ?_
  refine aw_icmp_ne (pc := 19) (tgt := 25) dX1_speedBehind_19 (by decide) (fun _ => ?_) (fun _ => ?_)
  · refine aw_bipush (pc := 22) (v := (-3)) dX1_speedBehind_22 (by decide) ?_
    exact aw_ret_i (pc := 24) rfl rfl rfl dX1_speedBehind_24
  refine aw_aload_n (pc := 25) dX1_speedBehind_25 rfl rfl ?_
  refine aw_get (pc := 26) (v := .inr (some 2)) foX1_47 (atX3 _) rfl dX1_speedBehind_26 ?_
  refine aw_aload_n (pc := 29) dX1_speedBehind_29 rfl rfl ?_
  refine aw_get (pc := 30) (v := .inr (some 20)) foX1_25 (atX3 _) rfl dX1_speedBehind_30 ?_
  refine aw_iload_n (pc := 33) dX1_speedBehind_33 rfl rfl ?_
  refine aw_iald' (pc := 34) (atX20 _) dX1_speedBehind_34 ?_
  refine aw_aload_n (pc := 35) dX1_speedBehind_35 rfl rfl ?_
  refine aw_get (pc := 36) (v := .inr (some 20)) foX1_25 (atX3 _) rfl dX1_speedBehind_36 ?_
  refine aw_iload_n (pc := 39) dX1_speedBehind_39 rfl rfl ?_
  refine aw_iald' (pc := 40) (atX20 _) dX1_speedBehind_40 ?_
  refine aw_cVI (pc := 41) (st := []) (xX3_least (σ2.1 20 a1.toNatClampNeg) (σ2.1 20 r1.toNatClampNeg) σ2) (atX2 _) rfl ckX1_125 ⟨rfl, rfl, by decide, by decide⟩ (Nat.le_of_ble_eq_true rfl) dX1_speedBehind_41 rfl (fun r3 σ4 => ?_)
  refine aw_stn (pc := 44) (L' := [some (.inr (some 3)), some (.inl a1), some (.inl r1), some (.inl r3), none]) dX1_speedBehind_44 rfl (by decide) rfl ?_
  refine aw_aload_n (pc := 45) dX1_speedBehind_45 rfl rfl ?_
  refine aw_iload_n (pc := 46) dX1_speedBehind_46 rfl rfl ?_
  refine aw_iload_n (pc := 47) dX1_speedBehind_47 rfl rfl ?_
  refine aw_cVI (pc := 48) (st := []) (xX1_ticksBetween a1 r1 σ4) (atX3 _) rfl ckX1_154 ⟨rfl, rfl, by decide, by decide⟩ (Nat.le_of_ble_eq_true rfl) dX1_speedBehind_48 rfl (fun r5 σ6 => ?_)
  refine aw_st (pc := 51) (L' := [some (.inr (some 3)), some (.inl a1), some (.inl r1), some (.inl r3), some (.inl r5)]) dX1_speedBehind_51 (by decide) rfl ?_
  refine aw_iload_n (pc := 53) dX1_speedBehind_53 rfl rfl ?_
  refine aw_ldc (pc := 54) lcX1_131 dX1_speedBehind_54 ?_
  refine aw_icmp_eq (pc := 56) (tgt := 64) dX1_speedBehind_56 (by decide) (fun _ => ?_) (fun _ => ?_)
  · refine aw_bipush (pc := 64) (v := (-3)) dX1_speedBehind_64 (by decide) ?_
    refine aw_goto (pc := 66) (tgt := 79) dX1_speedBehind_66 (by decide) ?_
    exact aw_ret_i (pc := 79) rfl rfl rfl dX1_speedBehind_79
  refine aw_iload (pc := 59) dX1_speedBehind_59 rfl ?_
  refine aw_if_gt (pc := 61) (tgt := 69) dX1_speedBehind_61 (by decide) (fun _ => ?_) (fun _ => ?_)
  · refine aw_iload_n (pc := 69) dX1_speedBehind_69 rfl rfl ?_
    refine aw_sipush (pc := 70) (v := 10000) dX1_speedBehind_70 (by decide) ?_
    refine aw_idiv (pc := 73) dX1_speedBehind_73 (by decide) ?_
    refine aw_iconst (pc := 74) (v := 4) dX1_speedBehind_74 (by decide) ?_
    refine aw_iload (pc := 75) dX1_speedBehind_75 rfl ?_
    refine aw_imul (pc := 77) dX1_speedBehind_77 ?_
    refine aw_idivC (pc := 78) dX1_speedBehind_78 (fun _ => ?_)
    exact aw_ret_i (pc := 79) rfl rfl rfl dX1_speedBehind_79
  refine aw_bipush (pc := 64) (v := (-3)) dX1_speedBehind_64 (by decide) ?_
  refine aw_goto (pc := 66) (tgt := 79) dX1_speedBehind_66 (by decide) ?_
  exact aw_ret_i (pc := 79) rfl rfl rfl dX1_speedBehind_79
