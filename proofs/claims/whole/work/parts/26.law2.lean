-- printed by gen4.py: the law, its cases and its loop
theorem ckL_13 : CallOK R_law 13 yX4_knot cX4_knot 3 (some .int) 2 := ⟨wt_in 217 (by decide +kernel) rfl, wt_in 218 (by decide +kernel) rfl, wt_in 219 (by decide +kernel) rfl, wt_in 47 (by decide +kernel) rfl, wt_in 220 (by decide +kernel) rfl, by decide +kernel, by decide +kernel, by decide +kernel⟩
theorem ckL_17 : CallOK R_law 17 yX5_knot cX5_knot 3 (some .int) 2 := ⟨wt_in 649 (by decide +kernel) rfl, wt_in 650 (by decide +kernel) rfl, wt_in 651 (by decide +kernel) rfl, wt_in 51 (by decide +kernel) rfl, wt_in 652 (by decide +kernel) rfl, by decide +kernel, by decide +kernel, by decide +kernel⟩
theorem ckL_18 : CallOK R_law 18 yX4_road cX4_road 7 (some .int) 4 := ⟨wt_in 228 (by decide +kernel) rfl, wt_in 229 (by decide +kernel) rfl, wt_in 230 (by decide +kernel) rfl, wt_in 47 (by decide +kernel) rfl, wt_in 231 (by decide +kernel) rfl, by decide +kernel, by decide +kernel, by decide +kernel⟩
theorem ckL_22 : CallOK R_law 22 yX5_road cX5_road 5 (some .int) 4 := ⟨wt_in 656 (by decide +kernel) rfl, wt_in 657 (by decide +kernel) rfl, wt_in 658 (by decide +kernel) rfl, wt_in 51 (by decide +kernel) rfl, wt_in 659 (by decide +kernel) rfl, by decide +kernel, by decide +kernel, by decide +kernel⟩
theorem ckL_23 : CallOK R_law 23 yX4_bar cX4_bar 5 (some .int) 3 := ⟨wt_in 259 (by decide +kernel) rfl, wt_in 260 (by decide +kernel) rfl, wt_in 261 (by decide +kernel) rfl, wt_in 47 (by decide +kernel) rfl, wt_in 262 (by decide +kernel) rfl, by decide +kernel, by decide +kernel, by decide +kernel⟩
theorem ckL_27 : CallOK R_law 27 yX5_bar cX5_bar 5 (some .int) 3 := ⟨wt_in 664 (by decide +kernel) rfl, wt_in 665 (by decide +kernel) rfl, wt_in 666 (by decide +kernel) rfl, wt_in 51 (by decide +kernel) rfl, wt_in 667 (by decide +kernel) rfl, by decide +kernel, by decide +kernel, by decide +kernel⟩
theorem ckL_28 : CallOK R_law 28 yX4_way cX4_way 4 (some .int) 2 := ⟨wt_in 283 (by decide +kernel) rfl, wt_in 284 (by decide +kernel) rfl, wt_in 285 (by decide +kernel) rfl, wt_in 47 (by decide +kernel) rfl, wt_in 286 (by decide +kernel) rfl, by decide +kernel, by decide +kernel, by decide +kernel⟩
theorem ckL_31 : CallOK R_law 31 yX5_way cX5_way 4 (some .int) 2 := ⟨wt_in 672 (by decide +kernel) rfl, wt_in 673 (by decide +kernel) rfl, wt_in 674 (by decide +kernel) rfl, wt_in 51 (by decide +kernel) rfl, wt_in 675 (by decide +kernel) rfl, by decide +kernel, by decide +kernel, by decide +kernel⟩
theorem ckL_32 : CallOK R_law 32 yX4_fees cX4_fees 4 (some .int) 2 := ⟨wt_in 327 (by decide +kernel) rfl, wt_in 328 (by decide +kernel) rfl, wt_in 329 (by decide +kernel) rfl, wt_in 47 (by decide +kernel) rfl, wt_in 330 (by decide +kernel) rfl, by decide +kernel, by decide +kernel, by decide +kernel⟩
theorem ckL_35 : CallOK R_law 35 yX5_fees cX5_fees 3 (some .int) 2 := ⟨wt_in 713 (by decide +kernel) rfl, wt_in 714 (by decide +kernel) rfl, wt_in 715 (by decide +kernel) rfl, wt_in 51 (by decide +kernel) rfl, wt_in 716 (by decide +kernel) rfl, by decide +kernel, by decide +kernel, by decide +kernel⟩
theorem ckL_36 : CallOK R_law 36 yX4_drive cX4_drive 1 (some .int) 0 := ⟨wt_in 331 (by decide +kernel) rfl, wt_in 332 (by decide +kernel) rfl, wt_in 333 (by decide +kernel) rfl, wt_in 47 (by decide +kernel) rfl, wt_in 334 (by decide +kernel) rfl, by decide +kernel, by decide +kernel, by decide +kernel⟩
theorem ckL_40 : CallOK R_law 40 yX5_drive cX5_drive 1 (some .int) 0 := ⟨wt_in 717 (by decide +kernel) rfl, wt_in 718 (by decide +kernel) rfl, wt_in 719 (by decide +kernel) rfl, wt_in 51 (by decide +kernel) rfl, wt_in 720 (by decide +kernel) rfl, by decide +kernel, by decide +kernel, by decide +kernel⟩
theorem ckL_41 : CallOK R_law 41 yX4_sight cX4_sight 6 (some .int) 4 := ⟨wt_in 364 (by decide +kernel) rfl, wt_in 365 (by decide +kernel) rfl, wt_in 366 (by decide +kernel) rfl, wt_in 47 (by decide +kernel) rfl, wt_in 367 (by decide +kernel) rfl, by decide +kernel, by decide +kernel, by decide +kernel⟩
theorem ckL_44 : CallOK R_law 44 yX5_sight cX5_sight 6 (some .int) 4 := ⟨wt_in 721 (by decide +kernel) rfl, wt_in 722 (by decide +kernel) rfl, wt_in 723 (by decide +kernel) rfl, wt_in 51 (by decide +kernel) rfl, wt_in 724 (by decide +kernel) rfl, by decide +kernel, by decide +kernel, by decide +kernel⟩
theorem ckL_45 : CallOK R_law 45 yX4_drop cX4_drop 3 (some .int) 1 := ⟨wt_in 380 (by decide +kernel) rfl, wt_in 381 (by decide +kernel) rfl, wt_in 382 (by decide +kernel) rfl, wt_in 47 (by decide +kernel) rfl, wt_in 383 (by decide +kernel) rfl, by decide +kernel, by decide +kernel, by decide +kernel⟩
theorem ckL_49 : CallOK R_law 49 yX5_drop cX5_drop 2 (some .int) 1 := ⟨wt_in 729 (by decide +kernel) rfl, wt_in 730 (by decide +kernel) rfl, wt_in 731 (by decide +kernel) rfl, wt_in 51 (by decide +kernel) rfl, wt_in 732 (by decide +kernel) rfl, by decide +kernel, by decide +kernel, by decide +kernel⟩
theorem ckL_50 : CallOK R_law 50 yX4_prices cX4_prices 3 (some .int) 2 := ⟨wt_in 384 (by decide +kernel) rfl, wt_in 385 (by decide +kernel) rfl, wt_in 386 (by decide +kernel) rfl, wt_in 47 (by decide +kernel) rfl, wt_in 387 (by decide +kernel) rfl, by decide +kernel, by decide +kernel, by decide +kernel⟩
theorem ckL_53 : CallOK R_law 53 yX5_prices cX5_prices 3 (some .int) 2 := ⟨wt_in 733 (by decide +kernel) rfl, wt_in 734 (by decide +kernel) rfl, wt_in 735 (by decide +kernel) rfl, wt_in 51 (by decide +kernel) rfl, wt_in 736 (by decide +kernel) rfl, by decide +kernel, by decide +kernel, by decide +kernel⟩
theorem ckL_54 : CallOK R_law 54 yX4_spot cX4_spot 6 (some .int) 3 := ⟨wt_in 388 (by decide +kernel) rfl, wt_in 389 (by decide +kernel) rfl, wt_in 390 (by decide +kernel) rfl, wt_in 47 (by decide +kernel) rfl, wt_in 391 (by decide +kernel) rfl, by decide +kernel, by decide +kernel, by decide +kernel⟩
theorem ckL_57 : CallOK R_law 57 yX5_spot cX5_spot 4 (some .int) 3 := ⟨wt_in 737 (by decide +kernel) rfl, wt_in 738 (by decide +kernel) rfl, wt_in 739 (by decide +kernel) rfl, wt_in 51 (by decide +kernel) rfl, wt_in 740 (by decide +kernel) rfl, by decide +kernel, by decide +kernel, by decide +kernel⟩
theorem ckL_58 : CallOK R_law 58 yX4_off cX4_off 5 (some .int) 3 := ⟨wt_in 419 (by decide +kernel) rfl, wt_in 420 (by decide +kernel) rfl, wt_in 421 (by decide +kernel) rfl, wt_in 47 (by decide +kernel) rfl, wt_in 422 (by decide +kernel) rfl, by decide +kernel, by decide +kernel, by decide +kernel⟩
theorem ckL_61 : CallOK R_law 61 yX5_off cX5_off 4 (some .int) 3 := ⟨wt_in 753 (by decide +kernel) rfl, wt_in 754 (by decide +kernel) rfl, wt_in 755 (by decide +kernel) rfl, wt_in 51 (by decide +kernel) rfl, wt_in 756 (by decide +kernel) rfl, by decide +kernel, by decide +kernel, by decide +kernel⟩
theorem ckL_62 : CallOK R_law 62 yX4_cost cX4_cost 2 (some .int) 1 := ⟨wt_in 424 (by decide +kernel) rfl, wt_in 425 (by decide +kernel) rfl, wt_in 426 (by decide +kernel) rfl, wt_in 47 (by decide +kernel) rfl, wt_in 427 (by decide +kernel) rfl, by decide +kernel, by decide +kernel, by decide +kernel⟩
theorem ckL_65 : CallOK R_law 65 yX5_cost cX5_cost 2 (some .int) 1 := ⟨wt_in 757 (by decide +kernel) rfl, wt_in 758 (by decide +kernel) rfl, wt_in 759 (by decide +kernel) rfl, wt_in 51 (by decide +kernel) rfl, wt_in 760 (by decide +kernel) rfl, by decide +kernel, by decide +kernel, by decide +kernel⟩
theorem ckL_66 : CallOK R_law 66 yX4_laid cX4_laid 4 (some .int) 2 := ⟨wt_in 467 (by decide +kernel) rfl, wt_in 468 (by decide +kernel) rfl, wt_in 469 (by decide +kernel) rfl, wt_in 47 (by decide +kernel) rfl, wt_in 470 (by decide +kernel) rfl, by decide +kernel, by decide +kernel, by decide +kernel⟩
theorem ckL_69 : CallOK R_law 69 yX5_laid cX5_laid 3 (some .int) 2 := ⟨wt_in 777 (by decide +kernel) rfl, wt_in 778 (by decide +kernel) rfl, wt_in 779 (by decide +kernel) rfl, wt_in 51 (by decide +kernel) rfl, wt_in 780 (by decide +kernel) rfl, by decide +kernel, by decide +kernel, by decide +kernel⟩
theorem ckL_70 : CallOK R_law 70 yX4_check cX4_check 4 (some .int) 1 := ⟨wt_in 471 (by decide +kernel) rfl, wt_in 472 (by decide +kernel) rfl, wt_in 473 (by decide +kernel) rfl, wt_in 47 (by decide +kernel) rfl, wt_in 474 (by decide +kernel) rfl, by decide +kernel, by decide +kernel, by decide +kernel⟩
theorem ckL_73 : CallOK R_law 73 yX5_check cX5_check 8 (some .int) 1 := ⟨wt_in 781 (by decide +kernel) rfl, wt_in 782 (by decide +kernel) rfl, wt_in 783 (by decide +kernel) rfl, wt_in 51 (by decide +kernel) rfl, wt_in 784 (by decide +kernel) rfl, by decide +kernel, by decide +kernel, by decide +kernel⟩
theorem ckL_74 : CallOK R_law 74 yX4_list cX4_list 2 (some .int) 1 := ⟨wt_in 491 (by decide +kernel) rfl, wt_in 492 (by decide +kernel) rfl, wt_in 493 (by decide +kernel) rfl, wt_in 47 (by decide +kernel) rfl, wt_in 494 (by decide +kernel) rfl, by decide +kernel, by decide +kernel, by decide +kernel⟩
theorem ckL_77 : CallOK R_law 77 yX5_list cX5_list 2 (some .int) 1 := ⟨wt_in 789 (by decide +kernel) rfl, wt_in 790 (by decide +kernel) rfl, wt_in 791 (by decide +kernel) rfl, wt_in 51 (by decide +kernel) rfl, wt_in 792 (by decide +kernel) rfl, by decide +kernel, by decide +kernel, by decide +kernel⟩
theorem ckL_78 : CallOK R_law 78 yX4_sure cX4_sure 4 (some .int) 2 := ⟨wt_in 495 (by decide +kernel) rfl, wt_in 496 (by decide +kernel) rfl, wt_in 497 (by decide +kernel) rfl, wt_in 47 (by decide +kernel) rfl, wt_in 498 (by decide +kernel) rfl, by decide +kernel, by decide +kernel, by decide +kernel⟩
theorem ckL_81 : CallOK R_law 81 yX5_sure cX5_sure 9 (some .int) 2 := ⟨wt_in 793 (by decide +kernel) rfl, wt_in 794 (by decide +kernel) rfl, wt_in 795 (by decide +kernel) rfl, wt_in 51 (by decide +kernel) rfl, wt_in 796 (by decide +kernel) rfl, by decide +kernel, by decide +kernel, by decide +kernel⟩
theorem ckL_82 : CallOK R_law 82 yX4_toll cX4_toll 3 (some .int) 1 := ⟨wt_in 509 (by decide +kernel) rfl, wt_in 510 (by decide +kernel) rfl, wt_in 511 (by decide +kernel) rfl, wt_in 47 (by decide +kernel) rfl, wt_in 512 (by decide +kernel) rfl, by decide +kernel, by decide +kernel, by decide +kernel⟩
theorem ckL_85 : CallOK R_law 85 yX5_toll cX5_toll 5 (some .int) 1 := ⟨wt_in 802 (by decide +kernel) rfl, wt_in 803 (by decide +kernel) rfl, wt_in 804 (by decide +kernel) rfl, wt_in 51 (by decide +kernel) rfl, wt_in 805 (by decide +kernel) rfl, by decide +kernel, by decide +kernel, by decide +kernel⟩
theorem ckL_86 : CallOK R_law 86 yX4_speed cX4_speed 4 (some .int) 2 := ⟨wt_in 521 (by decide +kernel) rfl, wt_in 522 (by decide +kernel) rfl, wt_in 523 (by decide +kernel) rfl, wt_in 47 (by decide +kernel) rfl, wt_in 524 (by decide +kernel) rfl, by decide +kernel, by decide +kernel, by decide +kernel⟩
theorem ckL_89 : CallOK R_law 89 yX5_speed cX5_speed 4 (some .int) 2 := ⟨wt_in 806 (by decide +kernel) rfl, wt_in 807 (by decide +kernel) rfl, wt_in 808 (by decide +kernel) rfl, wt_in 51 (by decide +kernel) rfl, wt_in 809 (by decide +kernel) rfl, by decide +kernel, by decide +kernel, by decide +kernel⟩
theorem ckL_90 : CallOK R_law 90 yX4_against cX4_against 4 (some .int) 1 := ⟨wt_in 529 (by decide +kernel) rfl, wt_in 530 (by decide +kernel) rfl, wt_in 531 (by decide +kernel) rfl, wt_in 47 (by decide +kernel) rfl, wt_in 532 (by decide +kernel) rfl, by decide +kernel, by decide +kernel, by decide +kernel⟩
theorem ckL_93 : CallOK R_law 93 yX5_against cX5_against 5 (some .int) 1 := ⟨wt_in 810 (by decide +kernel) rfl, wt_in 811 (by decide +kernel) rfl, wt_in 812 (by decide +kernel) rfl, wt_in 51 (by decide +kernel) rfl, wt_in 813 (by decide +kernel) rfl, by decide +kernel, by decide +kernel, by decide +kernel⟩
theorem ckL_94 : CallOK R_law 94 yX4_count cX4_count 2 (some .int) 1 := ⟨wt_in 538 (by decide +kernel) rfl, wt_in 539 (by decide +kernel) rfl, wt_in 540 (by decide +kernel) rfl, wt_in 47 (by decide +kernel) rfl, wt_in 541 (by decide +kernel) rfl, by decide +kernel, by decide +kernel, by decide +kernel⟩
theorem ckL_97 : CallOK R_law 97 yX5_count cX5_count 4 (some .int) 1 := ⟨wt_in 814 (by decide +kernel) rfl, wt_in 815 (by decide +kernel) rfl, wt_in 816 (by decide +kernel) rfl, wt_in 51 (by decide +kernel) rfl, wt_in 817 (by decide +kernel) rfl, by decide +kernel, by decide +kernel, by decide +kernel⟩
def Step (Inv : ST → ST → Prop) (fX fM : ST → Option (Int32 × ST)) : Prop := ∀ σX σM, Inv σX σM → ∃ r σX' σM', fX σX = some (r, σX') ∧ fM σM = some (r, σM') ∧ Inv σX' σM'
def Sim (Inv : ST → ST → Prop) : Prop := (∀ σX σM, Inv σX σM → RV σX) ∧ (∀ a1 a2 : Int32, Step Inv (fX4_knot a1 a2) (fX5_knot a1 a2)) ∧ (∀ a1 a2 a3 a4 : Int32, Step Inv (fX4_road a1 a2 a3 a4) (fX5_road a1 a2 a3 a4)) ∧ (∀ a1 a2 a3 : Int32, Step Inv (fX4_bar a1 a2 a3) (fX5_bar a1 a2 a3)) ∧ (∀ a1 a2 : Int32, Step Inv (fX4_way a1 a2) (fX5_way a1 a2)) ∧ (∀ a1 a2 : Int32, Step Inv (fX4_fees a1 a2) (fX5_fees a1 a2)) ∧ (Step Inv fX4_drive fX5_drive) ∧ (∀ a1 a2 a3 a4 : Int32, Step Inv (fX4_sight a1 a2 a3 a4) (fX5_sight a1 a2 a3 a4)) ∧ (∀ a1 : Int32, Step Inv (fX4_drop a1) (fX5_drop a1)) ∧ (∀ a1 a2 : Int32, Step Inv (fX4_prices a1 a2) (fX5_prices a1 a2)) ∧ (∀ a1 a2 a3 : Int32, Step Inv (fX4_spot a1 a2 a3) (fX5_spot a1 a2 a3)) ∧ (∀ a1 a2 a3 : Int32, Step Inv (fX4_off a1 a2 a3) (fX5_off a1 a2 a3)) ∧ (∀ a1 : Int32, Step Inv (fX4_cost a1) (fX5_cost a1)) ∧ (∀ a1 a2 : Int32, Step Inv (fX4_laid a1 a2) (fX5_laid a1 a2)) ∧ (∀ a1 : Int32, Step Inv (fX4_check a1) (fX5_check a1)) ∧ (∀ a1 : Int32, Step Inv (fX4_list a1) (fX5_list a1)) ∧ (∀ a1 a2 : Int32, Step Inv (fX4_sure a1 a2) (fX5_sure a1 a2)) ∧ (∀ a1 : Int32, Step Inv (fX4_toll a1) (fX5_toll a1)) ∧ (∀ a1 a2 : Int32, Step Inv (fX4_speed a1 a2) (fX5_speed a1 a2)) ∧ (∀ a1 : Int32, Step Inv (fX4_against a1) (fX5_against a1)) ∧ (∀ a1 : Int32, Step Inv (fX4_count a1) (fX5_count a1))
set_option maxRecDepth 10000 in
theorem op_0 {Inv : ST → ST → Prop} (S : Sim Inv) {b L : Nat} {xs : Nat → Int32} {h0 h1 k sl : Nat} {x3 : Int32} {σX σM : ST} (hI : Inv σX σM) (hk : k + 5 ≤ 600000) (hsl : sl + 85 ≤ 7302250) (i1 : vp_in (x3 + 1) L) (i2 : vp_in (x3 + 2) L) (i3 : vp_in (x3 + 3) L) (i4 : vp_in (x3 + 4) L) (kk : ∀ σX' σM', Inv σX' σM' → AL b L xs h0 h1 (k + 5) (sl + 85) 768 x3 [] σX' σM') : AL b L xs h0 h1 k sl 128 x3 [] σX σM := by
  obtain ⟨r, σX', σM', eX, eM, hI'⟩ := S.2.1 (xs (x3 + 1).toNatClampNeg) (xs (x3 + 2).toNatClampNeg) σX σM hI
  refine al_a1 (pc := 128) dL_law_128 ?_
  refine al_a0 (pc := 129) dL_law_129 ?_
  refine al_i3 (pc := 130) dL_law_130 ?_
  refine al_iconst (pc := 131) (v := 1) dL_law_131 (by decide) ?_
  refine al_iadd (pc := 132) dL_law_132 ?_
  refine al_ld (pc := 133) i1 dL_law_133 ?_
  refine al_a0 (pc := 134) dL_law_134 ?_
  refine al_i3 (pc := 135) dL_law_135 ?_
  refine al_iconst (pc := 136) (v := 2) dL_law_136 (by decide) ?_
  refine al_iadd (pc := 137) dL_law_137 ?_
  refine al_ld (pc := 138) i2 dL_law_138 ?_
  refine al_callX (pc := 139) (st := []) (as := [(xs (x3 + 1).toNatClampNeg), (xs (x3 + 2).toNatClampNeg)]) (xX4_knot (xs (x3 + 1).toNatClampNeg) (xs (x3 + 2).toNatClampNeg) σX) eX rfl ckL_13 ⟨rfl, rfl, by decide, by decide⟩ ⟨by omega, by omega⟩ (by decide) dL_law_139 rfl ?_
  refine al_a2 (pc := 142) dL_law_142 ?_
  refine al_a0 (pc := 143) dL_law_143 ?_
  refine al_i3 (pc := 144) dL_law_144 ?_
  refine al_iconst (pc := 145) (v := 1) dL_law_145 (by decide) ?_
  refine al_iadd (pc := 146) dL_law_146 ?_
  refine al_ld (pc := 147) i1 dL_law_147 ?_
  refine al_a0 (pc := 148) dL_law_148 ?_
  refine al_i3 (pc := 149) dL_law_149 ?_
  refine al_iconst (pc := 150) (v := 2) dL_law_150 (by decide) ?_
  refine al_iadd (pc := 151) dL_law_151 ?_
  refine al_ld (pc := 152) i2 dL_law_152 ?_
  refine al_callM (pc := 153) (st := [.int r]) (as := [(xs (x3 + 1).toNatClampNeg), (xs (x3 + 2).toNatClampNeg)]) (xX5_knot (xs (x3 + 1).toNatClampNeg) (xs (x3 + 2).toNatClampNeg) σM) eM rfl ckL_17 ⟨rfl, rfl, by decide, by decide⟩ ⟨by omega, by omega⟩ (by show 1 ≤ 8; decide) dL_law_153 rfl ?_
  refine al_eq (pc := 156) (tgt := 768) dL_law_156 (by decide) ?_
  refine al_widen (k' := k + 5) (sl' := sl + 85) (by omega) (by omega) ?_
  exact kk _ _ hI'
set_option maxRecDepth 10000 in
theorem op_1 {Inv : ST → ST → Prop} (S : Sim Inv) {b L : Nat} {xs : Nat → Int32} {h0 h1 k sl : Nat} {x3 : Int32} {σX σM : ST} (hI : Inv σX σM) (hk : k + 5 ≤ 600000) (hsl : sl + 85 ≤ 7302250) (i1 : vp_in (x3 + 1) L) (i2 : vp_in (x3 + 2) L) (i3 : vp_in (x3 + 3) L) (i4 : vp_in (x3 + 4) L) (kk : ∀ σX' σM', Inv σX' σM' → AL b L xs h0 h1 (k + 5) (sl + 85) 768 x3 [] σX' σM') : AL b L xs h0 h1 k sl 161 x3 [] σX σM := by
  obtain ⟨r, σX', σM', eX, eM, hI'⟩ := S.2.2.1 (xs (x3 + 1).toNatClampNeg) (xs (x3 + 2).toNatClampNeg) (xs (x3 + 3).toNatClampNeg) (xs (x3 + 4).toNatClampNeg) σX σM hI
  refine al_a1 (pc := 161) dL_law_161 ?_
  refine al_a0 (pc := 162) dL_law_162 ?_
  refine al_i3 (pc := 163) dL_law_163 ?_
  refine al_iconst (pc := 164) (v := 1) dL_law_164 (by decide) ?_
  refine al_iadd (pc := 165) dL_law_165 ?_
  refine al_ld (pc := 166) i1 dL_law_166 ?_
  refine al_a0 (pc := 167) dL_law_167 ?_
  refine al_i3 (pc := 168) dL_law_168 ?_
  refine al_iconst (pc := 169) (v := 2) dL_law_169 (by decide) ?_
  refine al_iadd (pc := 170) dL_law_170 ?_
  refine al_ld (pc := 171) i2 dL_law_171 ?_
  refine al_a0 (pc := 172) dL_law_172 ?_
  refine al_i3 (pc := 173) dL_law_173 ?_
  refine al_iconst (pc := 174) (v := 3) dL_law_174 (by decide) ?_
  refine al_iadd (pc := 175) dL_law_175 ?_
  refine al_ld (pc := 176) i3 dL_law_176 ?_
  refine al_a0 (pc := 177) dL_law_177 ?_
  refine al_i3 (pc := 178) dL_law_178 ?_
  refine al_iconst (pc := 179) (v := 4) dL_law_179 (by decide) ?_
  refine al_iadd (pc := 180) dL_law_180 ?_
  refine al_ld (pc := 181) i4 dL_law_181 ?_
  refine al_callX (pc := 182) (st := []) (as := [(xs (x3 + 1).toNatClampNeg), (xs (x3 + 2).toNatClampNeg), (xs (x3 + 3).toNatClampNeg), (xs (x3 + 4).toNatClampNeg)]) (xX4_road (xs (x3 + 1).toNatClampNeg) (xs (x3 + 2).toNatClampNeg) (xs (x3 + 3).toNatClampNeg) (xs (x3 + 4).toNatClampNeg) σX) eX rfl ckL_18 ⟨rfl, rfl, by decide, by decide⟩ ⟨by omega, by omega⟩ (by decide) dL_law_182 rfl ?_
  refine al_a2 (pc := 185) dL_law_185 ?_
  refine al_a0 (pc := 186) dL_law_186 ?_
  refine al_i3 (pc := 187) dL_law_187 ?_
  refine al_iconst (pc := 188) (v := 1) dL_law_188 (by decide) ?_
  refine al_iadd (pc := 189) dL_law_189 ?_
  refine al_ld (pc := 190) i1 dL_law_190 ?_
  refine al_a0 (pc := 191) dL_law_191 ?_
  refine al_i3 (pc := 192) dL_law_192 ?_
  refine al_iconst (pc := 193) (v := 2) dL_law_193 (by decide) ?_
  refine al_iadd (pc := 194) dL_law_194 ?_
  refine al_ld (pc := 195) i2 dL_law_195 ?_
  refine al_a0 (pc := 196) dL_law_196 ?_
  refine al_i3 (pc := 197) dL_law_197 ?_
  refine al_iconst (pc := 198) (v := 3) dL_law_198 (by decide) ?_
  refine al_iadd (pc := 199) dL_law_199 ?_
  refine al_ld (pc := 200) i3 dL_law_200 ?_
  refine al_a0 (pc := 201) dL_law_201 ?_
  refine al_i3 (pc := 202) dL_law_202 ?_
  refine al_iconst (pc := 203) (v := 4) dL_law_203 (by decide) ?_
  refine al_iadd (pc := 204) dL_law_204 ?_
  refine al_ld (pc := 205) i4 dL_law_205 ?_
  refine al_callM (pc := 206) (st := [.int r]) (as := [(xs (x3 + 1).toNatClampNeg), (xs (x3 + 2).toNatClampNeg), (xs (x3 + 3).toNatClampNeg), (xs (x3 + 4).toNatClampNeg)]) (xX5_road (xs (x3 + 1).toNatClampNeg) (xs (x3 + 2).toNatClampNeg) (xs (x3 + 3).toNatClampNeg) (xs (x3 + 4).toNatClampNeg) σM) eM rfl ckL_22 ⟨rfl, rfl, by decide, by decide⟩ ⟨by omega, by omega⟩ (by show 1 ≤ 8; decide) dL_law_206 rfl ?_
  refine al_eq (pc := 209) (tgt := 768) dL_law_209 (by decide) ?_
  refine al_widen (k' := k + 5) (sl' := sl + 85) (by omega) (by omega) ?_
  exact kk _ _ hI'
set_option maxRecDepth 10000 in
theorem op_2 {Inv : ST → ST → Prop} (S : Sim Inv) {b L : Nat} {xs : Nat → Int32} {h0 h1 k sl : Nat} {x3 : Int32} {σX σM : ST} (hI : Inv σX σM) (hk : k + 5 ≤ 600000) (hsl : sl + 85 ≤ 7302250) (i1 : vp_in (x3 + 1) L) (i2 : vp_in (x3 + 2) L) (i3 : vp_in (x3 + 3) L) (i4 : vp_in (x3 + 4) L) (kk : ∀ σX' σM', Inv σX' σM' → AL b L xs h0 h1 (k + 5) (sl + 85) 768 x3 [] σX' σM') : AL b L xs h0 h1 k sl 214 x3 [] σX σM := by
  obtain ⟨r, σX', σM', eX, eM, hI'⟩ := S.2.2.2.1 (xs (x3 + 1).toNatClampNeg) (xs (x3 + 2).toNatClampNeg) (xs (x3 + 3).toNatClampNeg) σX σM hI
  refine al_a1 (pc := 214) dL_law_214 ?_
  refine al_a0 (pc := 215) dL_law_215 ?_
  refine al_i3 (pc := 216) dL_law_216 ?_
  refine al_iconst (pc := 217) (v := 1) dL_law_217 (by decide) ?_
  refine al_iadd (pc := 218) dL_law_218 ?_
  refine al_ld (pc := 219) i1 dL_law_219 ?_
  refine al_a0 (pc := 220) dL_law_220 ?_
  refine al_i3 (pc := 221) dL_law_221 ?_
  refine al_iconst (pc := 222) (v := 2) dL_law_222 (by decide) ?_
  refine al_iadd (pc := 223) dL_law_223 ?_
  refine al_ld (pc := 224) i2 dL_law_224 ?_
  refine al_a0 (pc := 225) dL_law_225 ?_
  refine al_i3 (pc := 226) dL_law_226 ?_
  refine al_iconst (pc := 227) (v := 3) dL_law_227 (by decide) ?_
  refine al_iadd (pc := 228) dL_law_228 ?_
  refine al_ld (pc := 229) i3 dL_law_229 ?_
  refine al_callX (pc := 230) (st := []) (as := [(xs (x3 + 1).toNatClampNeg), (xs (x3 + 2).toNatClampNeg), (xs (x3 + 3).toNatClampNeg)]) (xX4_bar (xs (x3 + 1).toNatClampNeg) (xs (x3 + 2).toNatClampNeg) (xs (x3 + 3).toNatClampNeg) σX) eX rfl ckL_23 ⟨rfl, rfl, by decide, by decide⟩ ⟨by omega, by omega⟩ (by decide) dL_law_230 rfl ?_
  refine al_a2 (pc := 233) dL_law_233 ?_
  refine al_a0 (pc := 234) dL_law_234 ?_
  refine al_i3 (pc := 235) dL_law_235 ?_
  refine al_iconst (pc := 236) (v := 1) dL_law_236 (by decide) ?_
  refine al_iadd (pc := 237) dL_law_237 ?_
  refine al_ld (pc := 238) i1 dL_law_238 ?_
  refine al_a0 (pc := 239) dL_law_239 ?_
  refine al_i3 (pc := 240) dL_law_240 ?_
  refine al_iconst (pc := 241) (v := 2) dL_law_241 (by decide) ?_
  refine al_iadd (pc := 242) dL_law_242 ?_
  refine al_ld (pc := 243) i2 dL_law_243 ?_
  refine al_a0 (pc := 244) dL_law_244 ?_
  refine al_i3 (pc := 245) dL_law_245 ?_
  refine al_iconst (pc := 246) (v := 3) dL_law_246 (by decide) ?_
  refine al_iadd (pc := 247) dL_law_247 ?_
  refine al_ld (pc := 248) i3 dL_law_248 ?_
  refine al_callM (pc := 249) (st := [.int r]) (as := [(xs (x3 + 1).toNatClampNeg), (xs (x3 + 2).toNatClampNeg), (xs (x3 + 3).toNatClampNeg)]) (xX5_bar (xs (x3 + 1).toNatClampNeg) (xs (x3 + 2).toNatClampNeg) (xs (x3 + 3).toNatClampNeg) σM) eM rfl ckL_27 ⟨rfl, rfl, by decide, by decide⟩ ⟨by omega, by omega⟩ (by show 1 ≤ 8; decide) dL_law_249 rfl ?_
  refine al_eq (pc := 252) (tgt := 768) dL_law_252 (by decide) ?_
  refine al_widen (k' := k + 5) (sl' := sl + 85) (by omega) (by omega) ?_
  exact kk _ _ hI'
set_option maxRecDepth 10000 in
theorem op_3 {Inv : ST → ST → Prop} (S : Sim Inv) {b L : Nat} {xs : Nat → Int32} {h0 h1 k sl : Nat} {x3 : Int32} {σX σM : ST} (hI : Inv σX σM) (hk : k + 5 ≤ 600000) (hsl : sl + 85 ≤ 7302250) (i1 : vp_in (x3 + 1) L) (i2 : vp_in (x3 + 2) L) (i3 : vp_in (x3 + 3) L) (i4 : vp_in (x3 + 4) L) (kk : ∀ σX' σM', Inv σX' σM' → AL b L xs h0 h1 (k + 5) (sl + 85) 768 x3 [] σX' σM') : AL b L xs h0 h1 k sl 257 x3 [] σX σM := by
  obtain ⟨r, σX', σM', eX, eM, hI'⟩ := S.2.2.2.2.1 (xs (x3 + 1).toNatClampNeg) (xs (x3 + 2).toNatClampNeg) σX σM hI
  refine al_a1 (pc := 257) dL_law_257 ?_
  refine al_a0 (pc := 258) dL_law_258 ?_
  refine al_i3 (pc := 259) dL_law_259 ?_
  refine al_iconst (pc := 260) (v := 1) dL_law_260 (by decide) ?_
  refine al_iadd (pc := 261) dL_law_261 ?_
  refine al_ld (pc := 262) i1 dL_law_262 ?_
  refine al_a0 (pc := 263) dL_law_263 ?_
  refine al_i3 (pc := 264) dL_law_264 ?_
  refine al_iconst (pc := 265) (v := 2) dL_law_265 (by decide) ?_
  refine al_iadd (pc := 266) dL_law_266 ?_
  refine al_ld (pc := 267) i2 dL_law_267 ?_
  refine al_callX (pc := 268) (st := []) (as := [(xs (x3 + 1).toNatClampNeg), (xs (x3 + 2).toNatClampNeg)]) (xX4_way (xs (x3 + 1).toNatClampNeg) (xs (x3 + 2).toNatClampNeg) σX) eX rfl ckL_28 ⟨rfl, rfl, by decide, by decide⟩ ⟨by omega, by omega⟩ (by decide) dL_law_268 rfl ?_
  refine al_a2 (pc := 271) dL_law_271 ?_
  refine al_a0 (pc := 272) dL_law_272 ?_
  refine al_i3 (pc := 273) dL_law_273 ?_
  refine al_iconst (pc := 274) (v := 1) dL_law_274 (by decide) ?_
  refine al_iadd (pc := 275) dL_law_275 ?_
  refine al_ld (pc := 276) i1 dL_law_276 ?_
  refine al_a0 (pc := 277) dL_law_277 ?_
  refine al_i3 (pc := 278) dL_law_278 ?_
  refine al_iconst (pc := 279) (v := 2) dL_law_279 (by decide) ?_
  refine al_iadd (pc := 280) dL_law_280 ?_
  refine al_ld (pc := 281) i2 dL_law_281 ?_
  refine al_callM (pc := 282) (st := [.int r]) (as := [(xs (x3 + 1).toNatClampNeg), (xs (x3 + 2).toNatClampNeg)]) (xX5_way (xs (x3 + 1).toNatClampNeg) (xs (x3 + 2).toNatClampNeg) σM) eM rfl ckL_31 ⟨rfl, rfl, by decide, by decide⟩ ⟨by omega, by omega⟩ (by show 1 ≤ 8; decide) dL_law_282 rfl ?_
  refine al_eq (pc := 285) (tgt := 768) dL_law_285 (by decide) ?_
  refine al_widen (k' := k + 5) (sl' := sl + 85) (by omega) (by omega) ?_
  exact kk _ _ hI'
set_option maxRecDepth 10000 in
theorem op_4 {Inv : ST → ST → Prop} (S : Sim Inv) {b L : Nat} {xs : Nat → Int32} {h0 h1 k sl : Nat} {x3 : Int32} {σX σM : ST} (hI : Inv σX σM) (hk : k + 5 ≤ 600000) (hsl : sl + 85 ≤ 7302250) (i1 : vp_in (x3 + 1) L) (i2 : vp_in (x3 + 2) L) (i3 : vp_in (x3 + 3) L) (i4 : vp_in (x3 + 4) L) (kk : ∀ σX' σM', Inv σX' σM' → AL b L xs h0 h1 (k + 5) (sl + 85) 768 x3 [] σX' σM') : AL b L xs h0 h1 k sl 290 x3 [] σX σM := by
  obtain ⟨r, σX', σM', eX, eM, hI'⟩ := S.2.2.2.2.2.1 (xs (x3 + 1).toNatClampNeg) (xs (x3 + 2).toNatClampNeg) σX σM hI
  refine al_a1 (pc := 290) dL_law_290 ?_
  refine al_a0 (pc := 291) dL_law_291 ?_
  refine al_i3 (pc := 292) dL_law_292 ?_
  refine al_iconst (pc := 293) (v := 1) dL_law_293 (by decide) ?_
  refine al_iadd (pc := 294) dL_law_294 ?_
  refine al_ld (pc := 295) i1 dL_law_295 ?_
  refine al_a0 (pc := 296) dL_law_296 ?_
  refine al_i3 (pc := 297) dL_law_297 ?_
  refine al_iconst (pc := 298) (v := 2) dL_law_298 (by decide) ?_
  refine al_iadd (pc := 299) dL_law_299 ?_
  refine al_ld (pc := 300) i2 dL_law_300 ?_
  refine al_callX (pc := 301) (st := []) (as := [(xs (x3 + 1).toNatClampNeg), (xs (x3 + 2).toNatClampNeg)]) (xX4_fees (xs (x3 + 1).toNatClampNeg) (xs (x3 + 2).toNatClampNeg) σX) eX rfl ckL_32 ⟨rfl, rfl, by decide, by decide⟩ ⟨by omega, by omega⟩ (by decide) dL_law_301 rfl ?_
  refine al_a2 (pc := 304) dL_law_304 ?_
  refine al_a0 (pc := 305) dL_law_305 ?_
  refine al_i3 (pc := 306) dL_law_306 ?_
  refine al_iconst (pc := 307) (v := 1) dL_law_307 (by decide) ?_
  refine al_iadd (pc := 308) dL_law_308 ?_
  refine al_ld (pc := 309) i1 dL_law_309 ?_
  refine al_a0 (pc := 310) dL_law_310 ?_
  refine al_i3 (pc := 311) dL_law_311 ?_
  refine al_iconst (pc := 312) (v := 2) dL_law_312 (by decide) ?_
  refine al_iadd (pc := 313) dL_law_313 ?_
  refine al_ld (pc := 314) i2 dL_law_314 ?_
  refine al_callM (pc := 315) (st := [.int r]) (as := [(xs (x3 + 1).toNatClampNeg), (xs (x3 + 2).toNatClampNeg)]) (xX5_fees (xs (x3 + 1).toNatClampNeg) (xs (x3 + 2).toNatClampNeg) σM) eM rfl ckL_35 ⟨rfl, rfl, by decide, by decide⟩ ⟨by omega, by omega⟩ (by show 1 ≤ 8; decide) dL_law_315 rfl ?_
  refine al_eq (pc := 318) (tgt := 768) dL_law_318 (by decide) ?_
  refine al_widen (k' := k + 5) (sl' := sl + 85) (by omega) (by omega) ?_
  exact kk _ _ hI'
set_option maxRecDepth 10000 in
theorem op_5 {Inv : ST → ST → Prop} (S : Sim Inv) {b L : Nat} {xs : Nat → Int32} {h0 h1 k sl : Nat} {x3 : Int32} {σX σM : ST} (hI : Inv σX σM) (hk : k + 5 ≤ 600000) (hsl : sl + 85 ≤ 7302250) (i1 : vp_in (x3 + 1) L) (i2 : vp_in (x3 + 2) L) (i3 : vp_in (x3 + 3) L) (i4 : vp_in (x3 + 4) L) (kk : ∀ σX' σM', Inv σX' σM' → AL b L xs h0 h1 (k + 5) (sl + 85) 768 x3 [] σX' σM') : AL b L xs h0 h1 k sl 323 x3 [] σX σM := by
  obtain ⟨r, σX', σM', eX, eM, hI'⟩ := S.2.2.2.2.2.2.1  σX σM hI
  refine al_a1 (pc := 323) dL_law_323 ?_
  refine al_drive (pc := 324) (st := []) (S.1 _ _ hI) eX ckL_36 ⟨by omega, by omega⟩ (by decide) dL_law_324 ?_
  refine al_a2 (pc := 327) dL_law_327 ?_
  refine al_callM (pc := 328) (st := [.int r]) (as := []) (xX5_drive σM) eM rfl ckL_40 ⟨rfl, rfl, by decide, by decide⟩ ⟨by omega, by omega⟩ (by show 1 ≤ 8; decide) dL_law_328 rfl ?_
  refine al_eq (pc := 331) (tgt := 768) dL_law_331 (by decide) ?_
  exact kk _ _ hI'
set_option maxRecDepth 10000 in
theorem op_6 {Inv : ST → ST → Prop} (S : Sim Inv) {b L : Nat} {xs : Nat → Int32} {h0 h1 k sl : Nat} {x3 : Int32} {σX σM : ST} (hI : Inv σX σM) (hk : k + 5 ≤ 600000) (hsl : sl + 85 ≤ 7302250) (i1 : vp_in (x3 + 1) L) (i2 : vp_in (x3 + 2) L) (i3 : vp_in (x3 + 3) L) (i4 : vp_in (x3 + 4) L) (kk : ∀ σX' σM', Inv σX' σM' → AL b L xs h0 h1 (k + 5) (sl + 85) 768 x3 [] σX' σM') : AL b L xs h0 h1 k sl 336 x3 [] σX σM := by
  obtain ⟨r, σX', σM', eX, eM, hI'⟩ := S.2.2.2.2.2.2.2.1 (xs (x3 + 1).toNatClampNeg) (xs (x3 + 2).toNatClampNeg) (xs (x3 + 3).toNatClampNeg) (xs (x3 + 4).toNatClampNeg) σX σM hI
  refine al_a1 (pc := 336) dL_law_336 ?_
  refine al_a0 (pc := 337) dL_law_337 ?_
  refine al_i3 (pc := 338) dL_law_338 ?_
  refine al_iconst (pc := 339) (v := 1) dL_law_339 (by decide) ?_
  refine al_iadd (pc := 340) dL_law_340 ?_
  refine al_ld (pc := 341) i1 dL_law_341 ?_
  refine al_a0 (pc := 342) dL_law_342 ?_
  refine al_i3 (pc := 343) dL_law_343 ?_
  refine al_iconst (pc := 344) (v := 2) dL_law_344 (by decide) ?_
  refine al_iadd (pc := 345) dL_law_345 ?_
  refine al_ld (pc := 346) i2 dL_law_346 ?_
  refine al_a0 (pc := 347) dL_law_347 ?_
  refine al_i3 (pc := 348) dL_law_348 ?_
  refine al_iconst (pc := 349) (v := 3) dL_law_349 (by decide) ?_
  refine al_iadd (pc := 350) dL_law_350 ?_
  refine al_ld (pc := 351) i3 dL_law_351 ?_
  refine al_a0 (pc := 352) dL_law_352 ?_
  refine al_i3 (pc := 353) dL_law_353 ?_
  refine al_iconst (pc := 354) (v := 4) dL_law_354 (by decide) ?_
  refine al_iadd (pc := 355) dL_law_355 ?_
  refine al_ld (pc := 356) i4 dL_law_356 ?_
  refine al_callX (pc := 357) (st := []) (as := [(xs (x3 + 1).toNatClampNeg), (xs (x3 + 2).toNatClampNeg), (xs (x3 + 3).toNatClampNeg), (xs (x3 + 4).toNatClampNeg)]) (xX4_sight (xs (x3 + 1).toNatClampNeg) (xs (x3 + 2).toNatClampNeg) (xs (x3 + 3).toNatClampNeg) (xs (x3 + 4).toNatClampNeg) σX) eX rfl ckL_41 ⟨rfl, rfl, by decide, by decide⟩ ⟨by omega, by omega⟩ (by decide) dL_law_357 rfl ?_
  refine al_a2 (pc := 360) dL_law_360 ?_
  refine al_a0 (pc := 361) dL_law_361 ?_
  refine al_i3 (pc := 362) dL_law_362 ?_
  refine al_iconst (pc := 363) (v := 1) dL_law_363 (by decide) ?_
  refine al_iadd (pc := 364) dL_law_364 ?_
  refine al_ld (pc := 365) i1 dL_law_365 ?_
  refine al_a0 (pc := 366) dL_law_366 ?_
  refine al_i3 (pc := 367) dL_law_367 ?_
  refine al_iconst (pc := 368) (v := 2) dL_law_368 (by decide) ?_
  refine al_iadd (pc := 369) dL_law_369 ?_
  refine al_ld (pc := 370) i2 dL_law_370 ?_
  refine al_a0 (pc := 371) dL_law_371 ?_
  refine al_i3 (pc := 372) dL_law_372 ?_
  refine al_iconst (pc := 373) (v := 3) dL_law_373 (by decide) ?_
  refine al_iadd (pc := 374) dL_law_374 ?_
  refine al_ld (pc := 375) i3 dL_law_375 ?_
  refine al_a0 (pc := 376) dL_law_376 ?_
  refine al_i3 (pc := 377) dL_law_377 ?_
  refine al_iconst (pc := 378) (v := 4) dL_law_378 (by decide) ?_
  refine al_iadd (pc := 379) dL_law_379 ?_
  refine al_ld (pc := 380) i4 dL_law_380 ?_
  refine al_callM (pc := 381) (st := [.int r]) (as := [(xs (x3 + 1).toNatClampNeg), (xs (x3 + 2).toNatClampNeg), (xs (x3 + 3).toNatClampNeg), (xs (x3 + 4).toNatClampNeg)]) (xX5_sight (xs (x3 + 1).toNatClampNeg) (xs (x3 + 2).toNatClampNeg) (xs (x3 + 3).toNatClampNeg) (xs (x3 + 4).toNatClampNeg) σM) eM rfl ckL_44 ⟨rfl, rfl, by decide, by decide⟩ ⟨by omega, by omega⟩ (by show 1 ≤ 8; decide) dL_law_381 rfl ?_
  refine al_eq (pc := 384) (tgt := 768) dL_law_384 (by decide) ?_
  refine al_widen (k' := k + 5) (sl' := sl + 85) (by omega) (by omega) ?_
  exact kk _ _ hI'
set_option maxRecDepth 10000 in
theorem op_7 {Inv : ST → ST → Prop} (S : Sim Inv) {b L : Nat} {xs : Nat → Int32} {h0 h1 k sl : Nat} {x3 : Int32} {σX σM : ST} (hI : Inv σX σM) (hk : k + 5 ≤ 600000) (hsl : sl + 85 ≤ 7302250) (i1 : vp_in (x3 + 1) L) (i2 : vp_in (x3 + 2) L) (i3 : vp_in (x3 + 3) L) (i4 : vp_in (x3 + 4) L) (kk : ∀ σX' σM', Inv σX' σM' → AL b L xs h0 h1 (k + 5) (sl + 85) 768 x3 [] σX' σM') : AL b L xs h0 h1 k sl 389 x3 [] σX σM := by
  obtain ⟨r, σX', σM', eX, eM, hI'⟩ := S.2.2.2.2.2.2.2.2.1 (xs (x3 + 1).toNatClampNeg) σX σM hI
  refine al_a1 (pc := 389) dL_law_389 ?_
  refine al_a0 (pc := 390) dL_law_390 ?_
  refine al_i3 (pc := 391) dL_law_391 ?_
  refine al_iconst (pc := 392) (v := 1) dL_law_392 (by decide) ?_
  refine al_iadd (pc := 393) dL_law_393 ?_
  refine al_ld (pc := 394) i1 dL_law_394 ?_
  refine al_callX (pc := 395) (st := []) (as := [(xs (x3 + 1).toNatClampNeg)]) (xX4_drop (xs (x3 + 1).toNatClampNeg) σX) eX rfl ckL_45 ⟨rfl, rfl, by decide, by decide⟩ ⟨by omega, by omega⟩ (by decide) dL_law_395 rfl ?_
  refine al_a2 (pc := 398) dL_law_398 ?_
  refine al_a0 (pc := 399) dL_law_399 ?_
  refine al_i3 (pc := 400) dL_law_400 ?_
  refine al_iconst (pc := 401) (v := 1) dL_law_401 (by decide) ?_
  refine al_iadd (pc := 402) dL_law_402 ?_
  refine al_ld (pc := 403) i1 dL_law_403 ?_
  refine al_callM (pc := 404) (st := [.int r]) (as := [(xs (x3 + 1).toNatClampNeg)]) (xX5_drop (xs (x3 + 1).toNatClampNeg) σM) eM rfl ckL_49 ⟨rfl, rfl, by decide, by decide⟩ ⟨by omega, by omega⟩ (by show 1 ≤ 8; decide) dL_law_404 rfl ?_
  refine al_eq (pc := 407) (tgt := 768) dL_law_407 (by decide) ?_
  refine al_widen (k' := k + 5) (sl' := sl + 85) (by omega) (by omega) ?_
  exact kk _ _ hI'
set_option maxRecDepth 10000 in
theorem op_8 {Inv : ST → ST → Prop} (S : Sim Inv) {b L : Nat} {xs : Nat → Int32} {h0 h1 k sl : Nat} {x3 : Int32} {σX σM : ST} (hI : Inv σX σM) (hk : k + 5 ≤ 600000) (hsl : sl + 85 ≤ 7302250) (i1 : vp_in (x3 + 1) L) (i2 : vp_in (x3 + 2) L) (i3 : vp_in (x3 + 3) L) (i4 : vp_in (x3 + 4) L) (kk : ∀ σX' σM', Inv σX' σM' → AL b L xs h0 h1 (k + 5) (sl + 85) 768 x3 [] σX' σM') : AL b L xs h0 h1 k sl 412 x3 [] σX σM := by
  obtain ⟨r, σX', σM', eX, eM, hI'⟩ := S.2.2.2.2.2.2.2.2.2.1 (xs (x3 + 1).toNatClampNeg) (xs (x3 + 2).toNatClampNeg) σX σM hI
  refine al_a1 (pc := 412) dL_law_412 ?_
  refine al_a0 (pc := 413) dL_law_413 ?_
  refine al_i3 (pc := 414) dL_law_414 ?_
  refine al_iconst (pc := 415) (v := 1) dL_law_415 (by decide) ?_
  refine al_iadd (pc := 416) dL_law_416 ?_
  refine al_ld (pc := 417) i1 dL_law_417 ?_
  refine al_a0 (pc := 418) dL_law_418 ?_
  refine al_i3 (pc := 419) dL_law_419 ?_
  refine al_iconst (pc := 420) (v := 2) dL_law_420 (by decide) ?_
  refine al_iadd (pc := 421) dL_law_421 ?_
  refine al_ld (pc := 422) i2 dL_law_422 ?_
  refine al_callX (pc := 423) (st := []) (as := [(xs (x3 + 1).toNatClampNeg), (xs (x3 + 2).toNatClampNeg)]) (xX4_prices (xs (x3 + 1).toNatClampNeg) (xs (x3 + 2).toNatClampNeg) σX) eX rfl ckL_50 ⟨rfl, rfl, by decide, by decide⟩ ⟨by omega, by omega⟩ (by decide) dL_law_423 rfl ?_
  refine al_a2 (pc := 426) dL_law_426 ?_
  refine al_a0 (pc := 427) dL_law_427 ?_
  refine al_i3 (pc := 428) dL_law_428 ?_
  refine al_iconst (pc := 429) (v := 1) dL_law_429 (by decide) ?_
  refine al_iadd (pc := 430) dL_law_430 ?_
  refine al_ld (pc := 431) i1 dL_law_431 ?_
  refine al_a0 (pc := 432) dL_law_432 ?_
  refine al_i3 (pc := 433) dL_law_433 ?_
  refine al_iconst (pc := 434) (v := 2) dL_law_434 (by decide) ?_
  refine al_iadd (pc := 435) dL_law_435 ?_
  refine al_ld (pc := 436) i2 dL_law_436 ?_
  refine al_callM (pc := 437) (st := [.int r]) (as := [(xs (x3 + 1).toNatClampNeg), (xs (x3 + 2).toNatClampNeg)]) (xX5_prices (xs (x3 + 1).toNatClampNeg) (xs (x3 + 2).toNatClampNeg) σM) eM rfl ckL_53 ⟨rfl, rfl, by decide, by decide⟩ ⟨by omega, by omega⟩ (by show 1 ≤ 8; decide) dL_law_437 rfl ?_
  refine al_eq (pc := 440) (tgt := 768) dL_law_440 (by decide) ?_
  refine al_widen (k' := k + 5) (sl' := sl + 85) (by omega) (by omega) ?_
  exact kk _ _ hI'
set_option maxRecDepth 10000 in
theorem op_9 {Inv : ST → ST → Prop} (S : Sim Inv) {b L : Nat} {xs : Nat → Int32} {h0 h1 k sl : Nat} {x3 : Int32} {σX σM : ST} (hI : Inv σX σM) (hk : k + 5 ≤ 600000) (hsl : sl + 85 ≤ 7302250) (i1 : vp_in (x3 + 1) L) (i2 : vp_in (x3 + 2) L) (i3 : vp_in (x3 + 3) L) (i4 : vp_in (x3 + 4) L) (kk : ∀ σX' σM', Inv σX' σM' → AL b L xs h0 h1 (k + 5) (sl + 85) 768 x3 [] σX' σM') : AL b L xs h0 h1 k sl 445 x3 [] σX σM := by
  obtain ⟨r, σX', σM', eX, eM, hI'⟩ := S.2.2.2.2.2.2.2.2.2.2.1 (xs (x3 + 1).toNatClampNeg) (xs (x3 + 2).toNatClampNeg) (xs (x3 + 3).toNatClampNeg) σX σM hI
  refine al_a1 (pc := 445) dL_law_445 ?_
  refine al_a0 (pc := 446) dL_law_446 ?_
  refine al_i3 (pc := 447) dL_law_447 ?_
  refine al_iconst (pc := 448) (v := 1) dL_law_448 (by decide) ?_
  refine al_iadd (pc := 449) dL_law_449 ?_
  refine al_ld (pc := 450) i1 dL_law_450 ?_
  refine al_a0 (pc := 451) dL_law_451 ?_
  refine al_i3 (pc := 452) dL_law_452 ?_
  refine al_iconst (pc := 453) (v := 2) dL_law_453 (by decide) ?_
  refine al_iadd (pc := 454) dL_law_454 ?_
  refine al_ld (pc := 455) i2 dL_law_455 ?_
  refine al_a0 (pc := 456) dL_law_456 ?_
  refine al_i3 (pc := 457) dL_law_457 ?_
  refine al_iconst (pc := 458) (v := 3) dL_law_458 (by decide) ?_
  refine al_iadd (pc := 459) dL_law_459 ?_
  refine al_ld (pc := 460) i3 dL_law_460 ?_
  refine al_callX (pc := 461) (st := []) (as := [(xs (x3 + 1).toNatClampNeg), (xs (x3 + 2).toNatClampNeg), (xs (x3 + 3).toNatClampNeg)]) (xX4_spot (xs (x3 + 1).toNatClampNeg) (xs (x3 + 2).toNatClampNeg) (xs (x3 + 3).toNatClampNeg) σX) eX rfl ckL_54 ⟨rfl, rfl, by decide, by decide⟩ ⟨by omega, by omega⟩ (by decide) dL_law_461 rfl ?_
  refine al_a2 (pc := 464) dL_law_464 ?_
  refine al_a0 (pc := 465) dL_law_465 ?_
  refine al_i3 (pc := 466) dL_law_466 ?_
  refine al_iconst (pc := 467) (v := 1) dL_law_467 (by decide) ?_
  refine al_iadd (pc := 468) dL_law_468 ?_
  refine al_ld (pc := 469) i1 dL_law_469 ?_
  refine al_a0 (pc := 470) dL_law_470 ?_
  refine al_i3 (pc := 471) dL_law_471 ?_
  refine al_iconst (pc := 472) (v := 2) dL_law_472 (by decide) ?_
  refine al_iadd (pc := 473) dL_law_473 ?_
  refine al_ld (pc := 474) i2 dL_law_474 ?_
  refine al_a0 (pc := 475) dL_law_475 ?_
  refine al_i3 (pc := 476) dL_law_476 ?_
  refine al_iconst (pc := 477) (v := 3) dL_law_477 (by decide) ?_
  refine al_iadd (pc := 478) dL_law_478 ?_
  refine al_ld (pc := 479) i3 dL_law_479 ?_
  refine al_callM (pc := 480) (st := [.int r]) (as := [(xs (x3 + 1).toNatClampNeg), (xs (x3 + 2).toNatClampNeg), (xs (x3 + 3).toNatClampNeg)]) (xX5_spot (xs (x3 + 1).toNatClampNeg) (xs (x3 + 2).toNatClampNeg) (xs (x3 + 3).toNatClampNeg) σM) eM rfl ckL_57 ⟨rfl, rfl, by decide, by decide⟩ ⟨by omega, by omega⟩ (by show 1 ≤ 8; decide) dL_law_480 rfl ?_
  refine al_eq (pc := 483) (tgt := 768) dL_law_483 (by decide) ?_
  refine al_widen (k' := k + 5) (sl' := sl + 85) (by omega) (by omega) ?_
  exact kk _ _ hI'
set_option maxRecDepth 10000 in
theorem op_10 {Inv : ST → ST → Prop} (S : Sim Inv) {b L : Nat} {xs : Nat → Int32} {h0 h1 k sl : Nat} {x3 : Int32} {σX σM : ST} (hI : Inv σX σM) (hk : k + 5 ≤ 600000) (hsl : sl + 85 ≤ 7302250) (i1 : vp_in (x3 + 1) L) (i2 : vp_in (x3 + 2) L) (i3 : vp_in (x3 + 3) L) (i4 : vp_in (x3 + 4) L) (kk : ∀ σX' σM', Inv σX' σM' → AL b L xs h0 h1 (k + 5) (sl + 85) 768 x3 [] σX' σM') : AL b L xs h0 h1 k sl 488 x3 [] σX σM := by
  obtain ⟨r, σX', σM', eX, eM, hI'⟩ := S.2.2.2.2.2.2.2.2.2.2.2.1 (xs (x3 + 1).toNatClampNeg) (xs (x3 + 2).toNatClampNeg) (xs (x3 + 3).toNatClampNeg) σX σM hI
  refine al_a1 (pc := 488) dL_law_488 ?_
  refine al_a0 (pc := 489) dL_law_489 ?_
  refine al_i3 (pc := 490) dL_law_490 ?_
  refine al_iconst (pc := 491) (v := 1) dL_law_491 (by decide) ?_
  refine al_iadd (pc := 492) dL_law_492 ?_
  refine al_ld (pc := 493) i1 dL_law_493 ?_
  refine al_a0 (pc := 494) dL_law_494 ?_
  refine al_i3 (pc := 495) dL_law_495 ?_
  refine al_iconst (pc := 496) (v := 2) dL_law_496 (by decide) ?_
  refine al_iadd (pc := 497) dL_law_497 ?_
  refine al_ld (pc := 498) i2 dL_law_498 ?_
  refine al_a0 (pc := 499) dL_law_499 ?_
  refine al_i3 (pc := 500) dL_law_500 ?_
  refine al_iconst (pc := 501) (v := 3) dL_law_501 (by decide) ?_
  refine al_iadd (pc := 502) dL_law_502 ?_
  refine al_ld (pc := 503) i3 dL_law_503 ?_
  refine al_callX (pc := 504) (st := []) (as := [(xs (x3 + 1).toNatClampNeg), (xs (x3 + 2).toNatClampNeg), (xs (x3 + 3).toNatClampNeg)]) (xX4_off (xs (x3 + 1).toNatClampNeg) (xs (x3 + 2).toNatClampNeg) (xs (x3 + 3).toNatClampNeg) σX) eX rfl ckL_58 ⟨rfl, rfl, by decide, by decide⟩ ⟨by omega, by omega⟩ (by decide) dL_law_504 rfl ?_
  refine al_a2 (pc := 507) dL_law_507 ?_
  refine al_a0 (pc := 508) dL_law_508 ?_
  refine al_i3 (pc := 509) dL_law_509 ?_
  refine al_iconst (pc := 510) (v := 1) dL_law_510 (by decide) ?_
  refine al_iadd (pc := 511) dL_law_511 ?_
  refine al_ld (pc := 512) i1 dL_law_512 ?_
  refine al_a0 (pc := 513) dL_law_513 ?_
  refine al_i3 (pc := 514) dL_law_514 ?_
  refine al_iconst (pc := 515) (v := 2) dL_law_515 (by decide) ?_
  refine al_iadd (pc := 516) dL_law_516 ?_
  refine al_ld (pc := 517) i2 dL_law_517 ?_
  refine al_a0 (pc := 518) dL_law_518 ?_
  refine al_i3 (pc := 519) dL_law_519 ?_
  refine al_iconst (pc := 520) (v := 3) dL_law_520 (by decide) ?_
  refine al_iadd (pc := 521) dL_law_521 ?_
  refine al_ld (pc := 522) i3 dL_law_522 ?_
  refine al_callM (pc := 523) (st := [.int r]) (as := [(xs (x3 + 1).toNatClampNeg), (xs (x3 + 2).toNatClampNeg), (xs (x3 + 3).toNatClampNeg)]) (xX5_off (xs (x3 + 1).toNatClampNeg) (xs (x3 + 2).toNatClampNeg) (xs (x3 + 3).toNatClampNeg) σM) eM rfl ckL_61 ⟨rfl, rfl, by decide, by decide⟩ ⟨by omega, by omega⟩ (by show 1 ≤ 8; decide) dL_law_523 rfl ?_
  refine al_eq (pc := 526) (tgt := 768) dL_law_526 (by decide) ?_
  refine al_widen (k' := k + 5) (sl' := sl + 85) (by omega) (by omega) ?_
  exact kk _ _ hI'
set_option maxRecDepth 10000 in
theorem op_11 {Inv : ST → ST → Prop} (S : Sim Inv) {b L : Nat} {xs : Nat → Int32} {h0 h1 k sl : Nat} {x3 : Int32} {σX σM : ST} (hI : Inv σX σM) (hk : k + 5 ≤ 600000) (hsl : sl + 85 ≤ 7302250) (i1 : vp_in (x3 + 1) L) (i2 : vp_in (x3 + 2) L) (i3 : vp_in (x3 + 3) L) (i4 : vp_in (x3 + 4) L) (kk : ∀ σX' σM', Inv σX' σM' → AL b L xs h0 h1 (k + 5) (sl + 85) 768 x3 [] σX' σM') : AL b L xs h0 h1 k sl 531 x3 [] σX σM := by
  obtain ⟨r, σX', σM', eX, eM, hI'⟩ := S.2.2.2.2.2.2.2.2.2.2.2.2.1 (xs (x3 + 1).toNatClampNeg) σX σM hI
  refine al_a1 (pc := 531) dL_law_531 ?_
  refine al_a0 (pc := 532) dL_law_532 ?_
  refine al_i3 (pc := 533) dL_law_533 ?_
  refine al_iconst (pc := 534) (v := 1) dL_law_534 (by decide) ?_
  refine al_iadd (pc := 535) dL_law_535 ?_
  refine al_ld (pc := 536) i1 dL_law_536 ?_
  refine al_callX (pc := 537) (st := []) (as := [(xs (x3 + 1).toNatClampNeg)]) (xX4_cost (xs (x3 + 1).toNatClampNeg) σX) eX rfl ckL_62 ⟨rfl, rfl, by decide, by decide⟩ ⟨by omega, by omega⟩ (by decide) dL_law_537 rfl ?_
  refine al_a2 (pc := 540) dL_law_540 ?_
  refine al_a0 (pc := 541) dL_law_541 ?_
  refine al_i3 (pc := 542) dL_law_542 ?_
  refine al_iconst (pc := 543) (v := 1) dL_law_543 (by decide) ?_
  refine al_iadd (pc := 544) dL_law_544 ?_
  refine al_ld (pc := 545) i1 dL_law_545 ?_
  refine al_callM (pc := 546) (st := [.int r]) (as := [(xs (x3 + 1).toNatClampNeg)]) (xX5_cost (xs (x3 + 1).toNatClampNeg) σM) eM rfl ckL_65 ⟨rfl, rfl, by decide, by decide⟩ ⟨by omega, by omega⟩ (by show 1 ≤ 8; decide) dL_law_546 rfl ?_
  refine al_eq (pc := 549) (tgt := 768) dL_law_549 (by decide) ?_
  refine al_widen (k' := k + 5) (sl' := sl + 85) (by omega) (by omega) ?_
  exact kk _ _ hI'
set_option maxRecDepth 10000 in
theorem op_12 {Inv : ST → ST → Prop} (S : Sim Inv) {b L : Nat} {xs : Nat → Int32} {h0 h1 k sl : Nat} {x3 : Int32} {σX σM : ST} (hI : Inv σX σM) (hk : k + 5 ≤ 600000) (hsl : sl + 85 ≤ 7302250) (i1 : vp_in (x3 + 1) L) (i2 : vp_in (x3 + 2) L) (i3 : vp_in (x3 + 3) L) (i4 : vp_in (x3 + 4) L) (kk : ∀ σX' σM', Inv σX' σM' → AL b L xs h0 h1 (k + 5) (sl + 85) 768 x3 [] σX' σM') : AL b L xs h0 h1 k sl 554 x3 [] σX σM := by
  obtain ⟨r, σX', σM', eX, eM, hI'⟩ := S.2.2.2.2.2.2.2.2.2.2.2.2.2.1 (xs (x3 + 1).toNatClampNeg) (xs (x3 + 2).toNatClampNeg) σX σM hI
  refine al_a1 (pc := 554) dL_law_554 ?_
  refine al_a0 (pc := 555) dL_law_555 ?_
  refine al_i3 (pc := 556) dL_law_556 ?_
  refine al_iconst (pc := 557) (v := 1) dL_law_557 (by decide) ?_
  refine al_iadd (pc := 558) dL_law_558 ?_
  refine al_ld (pc := 559) i1 dL_law_559 ?_
  refine al_a0 (pc := 560) dL_law_560 ?_
  refine al_i3 (pc := 561) dL_law_561 ?_
  refine al_iconst (pc := 562) (v := 2) dL_law_562 (by decide) ?_
  refine al_iadd (pc := 563) dL_law_563 ?_
  refine al_ld (pc := 564) i2 dL_law_564 ?_
  refine al_callX (pc := 565) (st := []) (as := [(xs (x3 + 1).toNatClampNeg), (xs (x3 + 2).toNatClampNeg)]) (xX4_laid (xs (x3 + 1).toNatClampNeg) (xs (x3 + 2).toNatClampNeg) σX) eX rfl ckL_66 ⟨rfl, rfl, by decide, by decide⟩ ⟨by omega, by omega⟩ (by decide) dL_law_565 rfl ?_
  refine al_a2 (pc := 568) dL_law_568 ?_
  refine al_a0 (pc := 569) dL_law_569 ?_
  refine al_i3 (pc := 570) dL_law_570 ?_
  refine al_iconst (pc := 571) (v := 1) dL_law_571 (by decide) ?_
  refine al_iadd (pc := 572) dL_law_572 ?_
  refine al_ld (pc := 573) i1 dL_law_573 ?_
  refine al_a0 (pc := 574) dL_law_574 ?_
  refine al_i3 (pc := 575) dL_law_575 ?_
  refine al_iconst (pc := 576) (v := 2) dL_law_576 (by decide) ?_
  refine al_iadd (pc := 577) dL_law_577 ?_
  refine al_ld (pc := 578) i2 dL_law_578 ?_
  refine al_callM (pc := 579) (st := [.int r]) (as := [(xs (x3 + 1).toNatClampNeg), (xs (x3 + 2).toNatClampNeg)]) (xX5_laid (xs (x3 + 1).toNatClampNeg) (xs (x3 + 2).toNatClampNeg) σM) eM rfl ckL_69 ⟨rfl, rfl, by decide, by decide⟩ ⟨by omega, by omega⟩ (by show 1 ≤ 8; decide) dL_law_579 rfl ?_
  refine al_eq (pc := 582) (tgt := 768) dL_law_582 (by decide) ?_
  refine al_widen (k' := k + 5) (sl' := sl + 85) (by omega) (by omega) ?_
  exact kk _ _ hI'
set_option maxRecDepth 10000 in
theorem op_13 {Inv : ST → ST → Prop} (S : Sim Inv) {b L : Nat} {xs : Nat → Int32} {h0 h1 k sl : Nat} {x3 : Int32} {σX σM : ST} (hI : Inv σX σM) (hk : k + 5 ≤ 600000) (hsl : sl + 85 ≤ 7302250) (i1 : vp_in (x3 + 1) L) (i2 : vp_in (x3 + 2) L) (i3 : vp_in (x3 + 3) L) (i4 : vp_in (x3 + 4) L) (kk : ∀ σX' σM', Inv σX' σM' → AL b L xs h0 h1 (k + 5) (sl + 85) 768 x3 [] σX' σM') : AL b L xs h0 h1 k sl 587 x3 [] σX σM := by
  obtain ⟨r, σX', σM', eX, eM, hI'⟩ := S.2.2.2.2.2.2.2.2.2.2.2.2.2.2.1 (xs (x3 + 1).toNatClampNeg) σX σM hI
  refine al_a1 (pc := 587) dL_law_587 ?_
  refine al_a0 (pc := 588) dL_law_588 ?_
  refine al_i3 (pc := 589) dL_law_589 ?_
  refine al_iconst (pc := 590) (v := 1) dL_law_590 (by decide) ?_
  refine al_iadd (pc := 591) dL_law_591 ?_
  refine al_ld (pc := 592) i1 dL_law_592 ?_
  refine al_callX (pc := 593) (st := []) (as := [(xs (x3 + 1).toNatClampNeg)]) (xX4_check (xs (x3 + 1).toNatClampNeg) σX) eX rfl ckL_70 ⟨rfl, rfl, by decide, by decide⟩ ⟨by omega, by omega⟩ (by decide) dL_law_593 rfl ?_
  refine al_a2 (pc := 596) dL_law_596 ?_
  refine al_a0 (pc := 597) dL_law_597 ?_
  refine al_i3 (pc := 598) dL_law_598 ?_
  refine al_iconst (pc := 599) (v := 1) dL_law_599 (by decide) ?_
  refine al_iadd (pc := 600) dL_law_600 ?_
  refine al_ld (pc := 601) i1 dL_law_601 ?_
  refine al_callM (pc := 602) (st := [.int r]) (as := [(xs (x3 + 1).toNatClampNeg)]) (xX5_check (xs (x3 + 1).toNatClampNeg) σM) eM rfl ckL_73 ⟨rfl, rfl, by decide, by decide⟩ ⟨by omega, by omega⟩ (by show 1 ≤ 8; decide) dL_law_602 rfl ?_
  refine al_eq (pc := 605) (tgt := 768) dL_law_605 (by decide) ?_
  refine al_widen (k' := k + 5) (sl' := sl + 85) (by omega) (by omega) ?_
  exact kk _ _ hI'
set_option maxRecDepth 10000 in
theorem op_14 {Inv : ST → ST → Prop} (S : Sim Inv) {b L : Nat} {xs : Nat → Int32} {h0 h1 k sl : Nat} {x3 : Int32} {σX σM : ST} (hI : Inv σX σM) (hk : k + 5 ≤ 600000) (hsl : sl + 85 ≤ 7302250) (i1 : vp_in (x3 + 1) L) (i2 : vp_in (x3 + 2) L) (i3 : vp_in (x3 + 3) L) (i4 : vp_in (x3 + 4) L) (kk : ∀ σX' σM', Inv σX' σM' → AL b L xs h0 h1 (k + 5) (sl + 85) 768 x3 [] σX' σM') : AL b L xs h0 h1 k sl 610 x3 [] σX σM := by
  obtain ⟨r, σX', σM', eX, eM, hI'⟩ := S.2.2.2.2.2.2.2.2.2.2.2.2.2.2.2.1 (xs (x3 + 1).toNatClampNeg) σX σM hI
  refine al_a1 (pc := 610) dL_law_610 ?_
  refine al_a0 (pc := 611) dL_law_611 ?_
  refine al_i3 (pc := 612) dL_law_612 ?_
  refine al_iconst (pc := 613) (v := 1) dL_law_613 (by decide) ?_
  refine al_iadd (pc := 614) dL_law_614 ?_
  refine al_ld (pc := 615) i1 dL_law_615 ?_
  refine al_callX (pc := 616) (st := []) (as := [(xs (x3 + 1).toNatClampNeg)]) (xX4_list (xs (x3 + 1).toNatClampNeg) σX) eX rfl ckL_74 ⟨rfl, rfl, by decide, by decide⟩ ⟨by omega, by omega⟩ (by decide) dL_law_616 rfl ?_
  refine al_a2 (pc := 619) dL_law_619 ?_
  refine al_a0 (pc := 620) dL_law_620 ?_
  refine al_i3 (pc := 621) dL_law_621 ?_
  refine al_iconst (pc := 622) (v := 1) dL_law_622 (by decide) ?_
  refine al_iadd (pc := 623) dL_law_623 ?_
  refine al_ld (pc := 624) i1 dL_law_624 ?_
  refine al_callM (pc := 625) (st := [.int r]) (as := [(xs (x3 + 1).toNatClampNeg)]) (xX5_list (xs (x3 + 1).toNatClampNeg) σM) eM rfl ckL_77 ⟨rfl, rfl, by decide, by decide⟩ ⟨by omega, by omega⟩ (by show 1 ≤ 8; decide) dL_law_625 rfl ?_
  refine al_eq (pc := 628) (tgt := 768) dL_law_628 (by decide) ?_
  refine al_widen (k' := k + 5) (sl' := sl + 85) (by omega) (by omega) ?_
  exact kk _ _ hI'
set_option maxRecDepth 10000 in
theorem op_15 {Inv : ST → ST → Prop} (S : Sim Inv) {b L : Nat} {xs : Nat → Int32} {h0 h1 k sl : Nat} {x3 : Int32} {σX σM : ST} (hI : Inv σX σM) (hk : k + 5 ≤ 600000) (hsl : sl + 85 ≤ 7302250) (i1 : vp_in (x3 + 1) L) (i2 : vp_in (x3 + 2) L) (i3 : vp_in (x3 + 3) L) (i4 : vp_in (x3 + 4) L) (kk : ∀ σX' σM', Inv σX' σM' → AL b L xs h0 h1 (k + 5) (sl + 85) 768 x3 [] σX' σM') : AL b L xs h0 h1 k sl 633 x3 [] σX σM := by
  obtain ⟨r, σX', σM', eX, eM, hI'⟩ := S.2.2.2.2.2.2.2.2.2.2.2.2.2.2.2.2.1 (xs (x3 + 1).toNatClampNeg) (xs (x3 + 2).toNatClampNeg) σX σM hI
  refine al_a1 (pc := 633) dL_law_633 ?_
  refine al_a0 (pc := 634) dL_law_634 ?_
  refine al_i3 (pc := 635) dL_law_635 ?_
  refine al_iconst (pc := 636) (v := 1) dL_law_636 (by decide) ?_
  refine al_iadd (pc := 637) dL_law_637 ?_
  refine al_ld (pc := 638) i1 dL_law_638 ?_
  refine al_a0 (pc := 639) dL_law_639 ?_
  refine al_i3 (pc := 640) dL_law_640 ?_
  refine al_iconst (pc := 641) (v := 2) dL_law_641 (by decide) ?_
  refine al_iadd (pc := 642) dL_law_642 ?_
  refine al_ld (pc := 643) i2 dL_law_643 ?_
  refine al_callX (pc := 644) (st := []) (as := [(xs (x3 + 1).toNatClampNeg), (xs (x3 + 2).toNatClampNeg)]) (xX4_sure (xs (x3 + 1).toNatClampNeg) (xs (x3 + 2).toNatClampNeg) σX) eX rfl ckL_78 ⟨rfl, rfl, by decide, by decide⟩ ⟨by omega, by omega⟩ (by decide) dL_law_644 rfl ?_
  refine al_a2 (pc := 647) dL_law_647 ?_
  refine al_a0 (pc := 648) dL_law_648 ?_
  refine al_i3 (pc := 649) dL_law_649 ?_
  refine al_iconst (pc := 650) (v := 1) dL_law_650 (by decide) ?_
  refine al_iadd (pc := 651) dL_law_651 ?_
  refine al_ld (pc := 652) i1 dL_law_652 ?_
  refine al_a0 (pc := 653) dL_law_653 ?_
  refine al_i3 (pc := 654) dL_law_654 ?_
  refine al_iconst (pc := 655) (v := 2) dL_law_655 (by decide) ?_
  refine al_iadd (pc := 656) dL_law_656 ?_
  refine al_ld (pc := 657) i2 dL_law_657 ?_
  refine al_callM (pc := 658) (st := [.int r]) (as := [(xs (x3 + 1).toNatClampNeg), (xs (x3 + 2).toNatClampNeg)]) (xX5_sure (xs (x3 + 1).toNatClampNeg) (xs (x3 + 2).toNatClampNeg) σM) eM rfl ckL_81 ⟨rfl, rfl, by decide, by decide⟩ ⟨by omega, by omega⟩ (by show 1 ≤ 8; decide) dL_law_658 rfl ?_
  refine al_eq (pc := 661) (tgt := 768) dL_law_661 (by decide) ?_
  refine al_widen (k' := k + 5) (sl' := sl + 85) (by omega) (by omega) ?_
  exact kk _ _ hI'
set_option maxRecDepth 10000 in
theorem op_16 {Inv : ST → ST → Prop} (S : Sim Inv) {b L : Nat} {xs : Nat → Int32} {h0 h1 k sl : Nat} {x3 : Int32} {σX σM : ST} (hI : Inv σX σM) (hk : k + 5 ≤ 600000) (hsl : sl + 85 ≤ 7302250) (i1 : vp_in (x3 + 1) L) (i2 : vp_in (x3 + 2) L) (i3 : vp_in (x3 + 3) L) (i4 : vp_in (x3 + 4) L) (kk : ∀ σX' σM', Inv σX' σM' → AL b L xs h0 h1 (k + 5) (sl + 85) 768 x3 [] σX' σM') : AL b L xs h0 h1 k sl 666 x3 [] σX σM := by
  obtain ⟨r, σX', σM', eX, eM, hI'⟩ := S.2.2.2.2.2.2.2.2.2.2.2.2.2.2.2.2.2.1 (xs (x3 + 1).toNatClampNeg) σX σM hI
  refine al_a1 (pc := 666) dL_law_666 ?_
  refine al_a0 (pc := 667) dL_law_667 ?_
  refine al_i3 (pc := 668) dL_law_668 ?_
  refine al_iconst (pc := 669) (v := 1) dL_law_669 (by decide) ?_
  refine al_iadd (pc := 670) dL_law_670 ?_
  refine al_ld (pc := 671) i1 dL_law_671 ?_
  refine al_callX (pc := 672) (st := []) (as := [(xs (x3 + 1).toNatClampNeg)]) (xX4_toll (xs (x3 + 1).toNatClampNeg) σX) eX rfl ckL_82 ⟨rfl, rfl, by decide, by decide⟩ ⟨by omega, by omega⟩ (by decide) dL_law_672 rfl ?_
  refine al_a2 (pc := 675) dL_law_675 ?_
  refine al_a0 (pc := 676) dL_law_676 ?_
  refine al_i3 (pc := 677) dL_law_677 ?_
  refine al_iconst (pc := 678) (v := 1) dL_law_678 (by decide) ?_
  refine al_iadd (pc := 679) dL_law_679 ?_
  refine al_ld (pc := 680) i1 dL_law_680 ?_
  refine al_callM (pc := 681) (st := [.int r]) (as := [(xs (x3 + 1).toNatClampNeg)]) (xX5_toll (xs (x3 + 1).toNatClampNeg) σM) eM rfl ckL_85 ⟨rfl, rfl, by decide, by decide⟩ ⟨by omega, by omega⟩ (by show 1 ≤ 8; decide) dL_law_681 rfl ?_
  refine al_eq (pc := 684) (tgt := 768) dL_law_684 (by decide) ?_
  refine al_widen (k' := k + 5) (sl' := sl + 85) (by omega) (by omega) ?_
  exact kk _ _ hI'
set_option maxRecDepth 10000 in
theorem op_17 {Inv : ST → ST → Prop} (S : Sim Inv) {b L : Nat} {xs : Nat → Int32} {h0 h1 k sl : Nat} {x3 : Int32} {σX σM : ST} (hI : Inv σX σM) (hk : k + 5 ≤ 600000) (hsl : sl + 85 ≤ 7302250) (i1 : vp_in (x3 + 1) L) (i2 : vp_in (x3 + 2) L) (i3 : vp_in (x3 + 3) L) (i4 : vp_in (x3 + 4) L) (kk : ∀ σX' σM', Inv σX' σM' → AL b L xs h0 h1 (k + 5) (sl + 85) 768 x3 [] σX' σM') : AL b L xs h0 h1 k sl 689 x3 [] σX σM := by
  obtain ⟨r, σX', σM', eX, eM, hI'⟩ := S.2.2.2.2.2.2.2.2.2.2.2.2.2.2.2.2.2.2.1 (xs (x3 + 1).toNatClampNeg) (xs (x3 + 2).toNatClampNeg) σX σM hI
  refine al_a1 (pc := 689) dL_law_689 ?_
  refine al_a0 (pc := 690) dL_law_690 ?_
  refine al_i3 (pc := 691) dL_law_691 ?_
  refine al_iconst (pc := 692) (v := 1) dL_law_692 (by decide) ?_
  refine al_iadd (pc := 693) dL_law_693 ?_
  refine al_ld (pc := 694) i1 dL_law_694 ?_
  refine al_a0 (pc := 695) dL_law_695 ?_
  refine al_i3 (pc := 696) dL_law_696 ?_
  refine al_iconst (pc := 697) (v := 2) dL_law_697 (by decide) ?_
  refine al_iadd (pc := 698) dL_law_698 ?_
  refine al_ld (pc := 699) i2 dL_law_699 ?_
  refine al_callX (pc := 700) (st := []) (as := [(xs (x3 + 1).toNatClampNeg), (xs (x3 + 2).toNatClampNeg)]) (xX4_speed (xs (x3 + 1).toNatClampNeg) (xs (x3 + 2).toNatClampNeg) σX) eX rfl ckL_86 ⟨rfl, rfl, by decide, by decide⟩ ⟨by omega, by omega⟩ (by decide) dL_law_700 rfl ?_
  refine al_a2 (pc := 703) dL_law_703 ?_
  refine al_a0 (pc := 704) dL_law_704 ?_
  refine al_i3 (pc := 705) dL_law_705 ?_
  refine al_iconst (pc := 706) (v := 1) dL_law_706 (by decide) ?_
  refine al_iadd (pc := 707) dL_law_707 ?_
  refine al_ld (pc := 708) i1 dL_law_708 ?_
  refine al_a0 (pc := 709) dL_law_709 ?_
  refine al_i3 (pc := 710) dL_law_710 ?_
  refine al_iconst (pc := 711) (v := 2) dL_law_711 (by decide) ?_
  refine al_iadd (pc := 712) dL_law_712 ?_
  refine al_ld (pc := 713) i2 dL_law_713 ?_
  refine al_callM (pc := 714) (st := [.int r]) (as := [(xs (x3 + 1).toNatClampNeg), (xs (x3 + 2).toNatClampNeg)]) (xX5_speed (xs (x3 + 1).toNatClampNeg) (xs (x3 + 2).toNatClampNeg) σM) eM rfl ckL_89 ⟨rfl, rfl, by decide, by decide⟩ ⟨by omega, by omega⟩ (by show 1 ≤ 8; decide) dL_law_714 rfl ?_
  refine al_eq (pc := 717) (tgt := 768) dL_law_717 (by decide) ?_
  refine al_widen (k' := k + 5) (sl' := sl + 85) (by omega) (by omega) ?_
  exact kk _ _ hI'
set_option maxRecDepth 10000 in
theorem op_18 {Inv : ST → ST → Prop} (S : Sim Inv) {b L : Nat} {xs : Nat → Int32} {h0 h1 k sl : Nat} {x3 : Int32} {σX σM : ST} (hI : Inv σX σM) (hk : k + 5 ≤ 600000) (hsl : sl + 85 ≤ 7302250) (i1 : vp_in (x3 + 1) L) (i2 : vp_in (x3 + 2) L) (i3 : vp_in (x3 + 3) L) (i4 : vp_in (x3 + 4) L) (kk : ∀ σX' σM', Inv σX' σM' → AL b L xs h0 h1 (k + 5) (sl + 85) 768 x3 [] σX' σM') : AL b L xs h0 h1 k sl 722 x3 [] σX σM := by
  obtain ⟨r, σX', σM', eX, eM, hI'⟩ := S.2.2.2.2.2.2.2.2.2.2.2.2.2.2.2.2.2.2.2.1 (xs (x3 + 1).toNatClampNeg) σX σM hI
  refine al_a1 (pc := 722) dL_law_722 ?_
  refine al_a0 (pc := 723) dL_law_723 ?_
  refine al_i3 (pc := 724) dL_law_724 ?_
  refine al_iconst (pc := 725) (v := 1) dL_law_725 (by decide) ?_
  refine al_iadd (pc := 726) dL_law_726 ?_
  refine al_ld (pc := 727) i1 dL_law_727 ?_
  refine al_callX (pc := 728) (st := []) (as := [(xs (x3 + 1).toNatClampNeg)]) (xX4_against (xs (x3 + 1).toNatClampNeg) σX) eX rfl ckL_90 ⟨rfl, rfl, by decide, by decide⟩ ⟨by omega, by omega⟩ (by decide) dL_law_728 rfl ?_
  refine al_a2 (pc := 731) dL_law_731 ?_
  refine al_a0 (pc := 732) dL_law_732 ?_
  refine al_i3 (pc := 733) dL_law_733 ?_
  refine al_iconst (pc := 734) (v := 1) dL_law_734 (by decide) ?_
  refine al_iadd (pc := 735) dL_law_735 ?_
  refine al_ld (pc := 736) i1 dL_law_736 ?_
  refine al_callM (pc := 737) (st := [.int r]) (as := [(xs (x3 + 1).toNatClampNeg)]) (xX5_against (xs (x3 + 1).toNatClampNeg) σM) eM rfl ckL_93 ⟨rfl, rfl, by decide, by decide⟩ ⟨by omega, by omega⟩ (by show 1 ≤ 8; decide) dL_law_737 rfl ?_
  refine al_eq (pc := 740) (tgt := 768) dL_law_740 (by decide) ?_
  refine al_widen (k' := k + 5) (sl' := sl + 85) (by omega) (by omega) ?_
  exact kk _ _ hI'
set_option maxRecDepth 10000 in
theorem op_19 {Inv : ST → ST → Prop} (S : Sim Inv) {b L : Nat} {xs : Nat → Int32} {h0 h1 k sl : Nat} {x3 : Int32} {σX σM : ST} (hI : Inv σX σM) (hk : k + 5 ≤ 600000) (hsl : sl + 85 ≤ 7302250) (i1 : vp_in (x3 + 1) L) (i2 : vp_in (x3 + 2) L) (i3 : vp_in (x3 + 3) L) (i4 : vp_in (x3 + 4) L) (kk : ∀ σX' σM', Inv σX' σM' → AL b L xs h0 h1 (k + 5) (sl + 85) 768 x3 [] σX' σM') : AL b L xs h0 h1 k sl 745 x3 [] σX σM := by
  obtain ⟨r, σX', σM', eX, eM, hI'⟩ := S.2.2.2.2.2.2.2.2.2.2.2.2.2.2.2.2.2.2.2.2 (xs (x3 + 1).toNatClampNeg) σX σM hI
  refine al_a1 (pc := 745) dL_law_745 ?_
  refine al_a0 (pc := 746) dL_law_746 ?_
  refine al_i3 (pc := 747) dL_law_747 ?_
  refine al_iconst (pc := 748) (v := 1) dL_law_748 (by decide) ?_
  refine al_iadd (pc := 749) dL_law_749 ?_
  refine al_ld (pc := 750) i1 dL_law_750 ?_
  refine al_callX (pc := 751) (st := []) (as := [(xs (x3 + 1).toNatClampNeg)]) (xX4_count (xs (x3 + 1).toNatClampNeg) σX) eX rfl ckL_94 ⟨rfl, rfl, by decide, by decide⟩ ⟨by omega, by omega⟩ (by decide) dL_law_751 rfl ?_
  refine al_a2 (pc := 754) dL_law_754 ?_
  refine al_a0 (pc := 755) dL_law_755 ?_
  refine al_i3 (pc := 756) dL_law_756 ?_
  refine al_iconst (pc := 757) (v := 1) dL_law_757 (by decide) ?_
  refine al_iadd (pc := 758) dL_law_758 ?_
  refine al_ld (pc := 759) i1 dL_law_759 ?_
  refine al_callM (pc := 760) (st := [.int r]) (as := [(xs (x3 + 1).toNatClampNeg)]) (xX5_count (xs (x3 + 1).toNatClampNeg) σM) eM rfl ckL_97 ⟨rfl, rfl, by decide, by decide⟩ ⟨by omega, by omega⟩ (by show 1 ≤ 8; decide) dL_law_760 rfl ?_
  refine al_eq (pc := 763) (tgt := 768) dL_law_763 (by decide) ?_
  refine al_widen (k' := k + 5) (sl' := sl + 85) (by omega) (by omega) ?_
  exact kk _ _ hI'
set_option maxHeartbeats 4000000 in
set_option maxRecDepth 100000 in
theorem law_loop {Inv : ST → ST → Prop} (S : Sim Inv) {b L : Nat} {xs : Nat → Int32} {h0 h1 : Nat} (hL : L ≤ 2560) : ∀ (n t : Nat) (σX σM : ST), 5 * t ≤ L → L + 1 ≤ 5 * t + n → Inv σX σM → AL b L xs h0 h1 (50 + 5 * t) (52142 + 85 * t) 18 (nI (5 * t)) [] σX σM := by
  intro n
  induction n with
  | zero => intro t σX σM h1 h2; exact absurd h2 (by omega)
  | succ n ih =>
    intro t σX σM ht hn hI
    refine al_i3 (pc := 18) dL_law_18 ?_
    refine al_a0 (pc := 19) dL_law_19 ?_
    refine al_len (pc := 20) dL_law_20 ?_
    refine al_iconst (pc := 21) (v := 5) dL_law_21 (by decide) ?_
    refine al_isub (pc := 22) dL_law_22 ?_
    refine al_gt (pc := 23) (tgt := 774) dL_law_23 (by decide) (fun _ => ?_) (fun hc => ?_)
    · refine al_iconst (pc := 774) (v := 1) dL_law_774 (by decide) ?_
      exact al_end (pc := 775) (by omega) (by omega) dL_law_775
    have hlt : 5 * t + 5 ≤ L := by
      rcases Nat.lt_or_ge L (5 * t + 5) with q | q
      · refine absurd ?_ hc
        rw [Int32.lt_iff_toInt_lt]
        have e1 : (Int32.ofNat L - 5).toInt = (L : Int) - (5 : Nat) := pk_sub_toInt (a := L) (b := 5) (by omega) (by decide)
        have e2 : (nI (5 * t)).toInt = ((5 * t : Nat) : Int) := nI_toInt (by omega)
        rw [e1, e2]
        omega
      · exact q
    have inn : ∀ j, j < 5 → vp_in (nI (5 * t + j)) L := fun j hj => vp_in_nI (by omega) (by omega)
    have i1 : vp_in (nI (5 * t) + 1) L := by rw [show (1 : Int32) = nI 1 from rfl, nI_add]; exact inn 1 (by decide)
    have i2 : vp_in (nI (5 * t) + 2) L := by rw [show (2 : Int32) = nI 2 from rfl, nI_add]; exact inn 2 (by decide)
    have i3 : vp_in (nI (5 * t) + 3) L := by rw [show (3 : Int32) = nI 3 from rfl, nI_add]; exact inn 3 (by decide)
    have i4 : vp_in (nI (5 * t) + 4) L := by rw [show (4 : Int32) = nI 4 from rfl, nI_add]; exact inn 4 (by decide)
    refine al_a0 (pc := 26) dL_law_26 ?_
    refine al_i3 (pc := 27) dL_law_27 ?_
    refine al_ld (pc := 28) (inn 0 (by decide)) dL_law_28 ?_
    refine al_bipush (pc := 29) (v := 31) dL_law_29 (by decide) ?_
    refine al_iand (pc := 31) dL_law_31 ?_
    have back : ∀ (k sl : Nat) (σX σM : ST), k = 50 + 5 * (t + 1) → sl = 52142 + 85 * (t + 1) → Inv σX σM → AL b L xs h0 h1 k sl 768 (nI (5 * t)) [] σX σM := by
      intro k sl σX σM hk hs hI
      subst hk; subst hs
      refine al_inc (pc := 768) (v := 5) dL_law_768 (by decide) ?_
      refine al_goto (pc := 771) (tgt := 18) dL_law_771 (by decide) ?_
      rw [show (5 : Int32) = nI 5 from rfl, nI_add, show 5 * t + 5 = 5 * (t + 1) by omega]
      exact ih (t + 1) σX σM (by omega) (by omega) hI
    obtain ⟨j, hj, ej⟩ := pk_andE (xs (nI (5 * t)).toNatClampNeg) (m := 31) 5 (by decide)
    rw [ej]
    have kk : ∀ σX' σM', Inv σX' σM' → AL b L xs h0 h1 (50 + 5 * t + 5) (52142 + 85 * t + 85) 768 (nI (5 * t)) [] σX' σM' := fun σX' σM' h => back _ _ _ _ (by omega) (by omega) h
    match j, hj with
    | 0, _ => exact al_in (pc := 32) (tgt := 128) (off := 96) dL_law_32 (by decide) (by decide) (by decide +kernel) (by decide) (op_0 S hI (by omega) (by omega) i1 i2 i3 i4 kk)
    | 1, _ => exact al_in (pc := 32) (tgt := 161) (off := 129) dL_law_32 (by decide) (by decide) (by decide +kernel) (by decide) (op_1 S hI (by omega) (by omega) i1 i2 i3 i4 kk)
    | 2, _ => exact al_in (pc := 32) (tgt := 214) (off := 182) dL_law_32 (by decide) (by decide) (by decide +kernel) (by decide) (op_2 S hI (by omega) (by omega) i1 i2 i3 i4 kk)
    | 3, _ => exact al_in (pc := 32) (tgt := 257) (off := 225) dL_law_32 (by decide) (by decide) (by decide +kernel) (by decide) (op_3 S hI (by omega) (by omega) i1 i2 i3 i4 kk)
    | 4, _ => exact al_in (pc := 32) (tgt := 290) (off := 258) dL_law_32 (by decide) (by decide) (by decide +kernel) (by decide) (op_4 S hI (by omega) (by omega) i1 i2 i3 i4 kk)
    | 5, _ => exact al_in (pc := 32) (tgt := 323) (off := 291) dL_law_32 (by decide) (by decide) (by decide +kernel) (by decide) (op_5 S hI (by omega) (by omega) i1 i2 i3 i4 kk)
    | 6, _ => exact al_in (pc := 32) (tgt := 336) (off := 304) dL_law_32 (by decide) (by decide) (by decide +kernel) (by decide) (op_6 S hI (by omega) (by omega) i1 i2 i3 i4 kk)
    | 7, _ => exact al_in (pc := 32) (tgt := 389) (off := 357) dL_law_32 (by decide) (by decide) (by decide +kernel) (by decide) (op_7 S hI (by omega) (by omega) i1 i2 i3 i4 kk)
    | 8, _ => exact al_in (pc := 32) (tgt := 412) (off := 380) dL_law_32 (by decide) (by decide) (by decide +kernel) (by decide) (op_8 S hI (by omega) (by omega) i1 i2 i3 i4 kk)
    | 9, _ => exact al_in (pc := 32) (tgt := 445) (off := 413) dL_law_32 (by decide) (by decide) (by decide +kernel) (by decide) (op_9 S hI (by omega) (by omega) i1 i2 i3 i4 kk)
    | 10, _ => exact al_in (pc := 32) (tgt := 488) (off := 456) dL_law_32 (by decide) (by decide) (by decide +kernel) (by decide) (op_10 S hI (by omega) (by omega) i1 i2 i3 i4 kk)
    | 11, _ => exact al_in (pc := 32) (tgt := 531) (off := 499) dL_law_32 (by decide) (by decide) (by decide +kernel) (by decide) (op_11 S hI (by omega) (by omega) i1 i2 i3 i4 kk)
    | 12, _ => exact al_in (pc := 32) (tgt := 554) (off := 522) dL_law_32 (by decide) (by decide) (by decide +kernel) (by decide) (op_12 S hI (by omega) (by omega) i1 i2 i3 i4 kk)
    | 13, _ => exact al_in (pc := 32) (tgt := 587) (off := 555) dL_law_32 (by decide) (by decide) (by decide +kernel) (by decide) (op_13 S hI (by omega) (by omega) i1 i2 i3 i4 kk)
    | 14, _ => exact al_in (pc := 32) (tgt := 610) (off := 578) dL_law_32 (by decide) (by decide) (by decide +kernel) (by decide) (op_14 S hI (by omega) (by omega) i1 i2 i3 i4 kk)
    | 15, _ => exact al_in (pc := 32) (tgt := 633) (off := 601) dL_law_32 (by decide) (by decide) (by decide +kernel) (by decide) (op_15 S hI (by omega) (by omega) i1 i2 i3 i4 kk)
    | 16, _ => exact al_in (pc := 32) (tgt := 666) (off := 634) dL_law_32 (by decide) (by decide) (by decide +kernel) (by decide) (op_16 S hI (by omega) (by omega) i1 i2 i3 i4 kk)
    | 17, _ => exact al_in (pc := 32) (tgt := 689) (off := 657) dL_law_32 (by decide) (by decide) (by decide +kernel) (by decide) (op_17 S hI (by omega) (by omega) i1 i2 i3 i4 kk)
    | 18, _ => exact al_in (pc := 32) (tgt := 722) (off := 690) dL_law_32 (by decide) (by decide) (by decide +kernel) (by decide) (op_18 S hI (by omega) (by omega) i1 i2 i3 i4 kk)
    | 19, _ => exact al_in (pc := 32) (tgt := 745) (off := 713) dL_law_32 (by decide) (by decide) (by decide +kernel) (by decide) (op_19 S hI (by omega) (by omega) i1 i2 i3 i4 kk)
    | q + 20, hq =>
      have e3 : (nI (q + 20)).toInt = ((q + 20 : Nat) : Int) := nI_toInt (by omega)
      refine al_out (pc := 32) (tgt := 768) dL_law_32 (Or.inr (by rw [e3]; omega)) (by decide) ?_
      refine al_widen (k' := 50 + 5 * (t + 1)) (sl' := 52142 + 85 * (t + 1)) (by omega) (by omega) ?_
      exact back _ _ _ _ rfl rfl hI
