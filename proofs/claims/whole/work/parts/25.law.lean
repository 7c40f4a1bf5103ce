-- the law: rules over the two worlds side by side (own work)
theorem wt_goodL {d : Cond} (h : d ∈ WT) : GoodIn lw_tbl (d :: WT) := by
  intro w hw
  have hm : w ∈ WT := by
    rcases List.mem_cons.mp hw with rfl | hw
    · exact h
    · exact hw
  exact ⟨(List.mem_filter.mp hm).1, good_of_word (List.mem_filter.mp hm).2⟩
abbrev AX : State → Nat → Prop := fun s q => s.heap.size ≤ q
def AL (b L : Nat) (xs : Nat → Int32) (h0 h1 k sl pc : Nat) (x3 : Int32) (st : List Value) (σX σM : ST) : Prop :=
  ∀ (p : Program) (l : Launch) (e : Env) (s : State) (m : MethodId) (below : List Frame) (meth : Method) (c : Code) (D : va_G) (cI cZ cD : ClassId), lw_At p s m meth c b L xs → va_K D vwCl (tys3 cI cZ cD) s → NW s →
    ∀ (aX aM : Nat → Nat) (H : Heap) (locs : List Loc) (ls : Array Slot), aX 0 = h0 → aM 0 = h1 → va_P D vwCl (wlX cI cZ cD aX σX ++ wlM cI cZ cD aM σM) H → va_D (AX s) (wlX cI cZ cD aX σX ++ wlM cI cZ cD aM σM) → va_S (AX s) s.heap H locs → lv_has ls 4 [(0, .ref b), (1, .ref h0), (2, .ref h1), (3, .int x3)] →
      W p l e room_1 s m #[Value.ref b] below meth c H locs k sl (lw_Z below #[Value.ref b] s) (F0 m pc ls st)
section ALR
variable {b L : Nat} {xs : Nat → Int32} {h0 h1 k sl pc : Nat} {x3 : Int32} {st : List Value} {σX σM : ST}
theorem al_iconst {n : Int} {v : Int32} (hd : decode code pc = .ok (.iconst n, 1)) (hv : Int32.ofInt n = v) (kk : AL b L xs h0 h1 k sl (pc + 1) x3 (.int v :: st) σX σM) : AL b L xs h0 h1 k sl pc x3 st σX σM := fun p l e s m below meth c D cI cZ cD hA hK hN aX aM H locs ls e0 e1 hP hD hS hl => lv_iconst hA.1 hA.2.1 hd hv (kk p l e s m below meth c D cI cZ cD hA hK hN aX aM H locs ls e0 e1 hP hD hS hl)
theorem al_bipush {n : Int} {v : Int32} (hd : decode code pc = .ok (.bipush n, 2)) (hv : (Int8.ofInt n).toInt32 = v) (kk : AL b L xs h0 h1 k sl (pc + 2) x3 (.int v :: st) σX σM) : AL b L xs h0 h1 k sl pc x3 st σX σM := fun p l e s m below meth c D cI cZ cD hA hK hN aX aM H locs ls e0 e1 hP hD hS hl => lv_bipush hA.1 hA.2.1 hd hv (kk p l e s m below meth c D cI cZ cD hA hK hN aX aM H locs ls e0 e1 hP hD hS hl)
theorem al_i3 (hd : decode code pc = .ok (.iload_n 3, 1)) (kk : AL b L xs h0 h1 k sl (pc + 1) x3 (.int x3 :: st) σX σM) : AL b L xs h0 h1 k sl pc x3 st σX σM := fun p l e s m below meth c D cI cZ cD hA hK hN aX aM H locs ls e0 e1 hP hD hS hl => lv_iload_n hA.1 hA.2.1 hd rfl (lv_at hl 3 rfl) (kk p l e s m below meth c D cI cZ cD hA hK hN aX aM H locs ls e0 e1 hP hD hS hl)
theorem al_a0 (hd : decode code pc = .ok (.aload_n 0, 1)) (kk : AL b L xs h0 h1 k sl (pc + 1) x3 (.ref b :: st) σX σM) : AL b L xs h0 h1 k sl pc x3 st σX σM := fun p l e s m below meth c D cI cZ cD hA hK hN aX aM H locs ls e0 e1 hP hD hS hl => lv_aload_n hA.1 hA.2.1 hd rfl (lv_at hl 0 rfl) (kk p l e s m below meth c D cI cZ cD hA hK hN aX aM H locs ls e0 e1 hP hD hS hl)
theorem al_a1 (hd : decode code pc = .ok (.aload_n 1, 1)) (kk : AL b L xs h0 h1 k sl (pc + 1) x3 (.ref h0 :: st) σX σM) : AL b L xs h0 h1 k sl pc x3 st σX σM := fun p l e s m below meth c D cI cZ cD hA hK hN aX aM H locs ls e0 e1 hP hD hS hl => lv_aload_n hA.1 hA.2.1 hd rfl (lv_at hl 1 rfl) (kk p l e s m below meth c D cI cZ cD hA hK hN aX aM H locs ls e0 e1 hP hD hS hl)
theorem al_a2 (hd : decode code pc = .ok (.aload_n 2, 1)) (kk : AL b L xs h0 h1 k sl (pc + 1) x3 (.ref h1 :: st) σX σM) : AL b L xs h0 h1 k sl pc x3 st σX σM := fun p l e s m below meth c D cI cZ cD hA hK hN aX aM H locs ls e0 e1 hP hD hS hl => lv_aload_n hA.1 hA.2.1 hd rfl (lv_at hl 2 rfl) (kk p l e s m below meth c D cI cZ cD hA hK hN aX aM H locs ls e0 e1 hP hD hS hl)
theorem al_iadd {x z : Int32} (hd : decode code pc = .ok (.iadd, 1)) (kk : AL b L xs h0 h1 k sl (pc + 1) x3 (.int (x + z) :: st) σX σM) : AL b L xs h0 h1 k sl pc x3 (.int z :: .int x :: st) σX σM := fun p l e s m below meth c D cI cZ cD hA hK hN aX aM H locs ls e0 e1 hP hD hS hl => lv_iadd hA.1 hA.2.1 hd (kk p l e s m below meth c D cI cZ cD hA hK hN aX aM H locs ls e0 e1 hP hD hS hl)
theorem al_isub {x z : Int32} (hd : decode code pc = .ok (.isub, 1)) (kk : AL b L xs h0 h1 k sl (pc + 1) x3 (.int (x - z) :: st) σX σM) : AL b L xs h0 h1 k sl pc x3 (.int z :: .int x :: st) σX σM := fun p l e s m below meth c D cI cZ cD hA hK hN aX aM H locs ls e0 e1 hP hD hS hl => lv_isub hA.1 hA.2.1 hd (kk p l e s m below meth c D cI cZ cD hA hK hN aX aM H locs ls e0 e1 hP hD hS hl)
theorem al_iand {x z : Int32} (hd : decode code pc = .ok (.iand, 1)) (kk : AL b L xs h0 h1 k sl (pc + 1) x3 (.int (x &&& z) :: st) σX σM) : AL b L xs h0 h1 k sl pc x3 (.int z :: .int x :: st) σX σM := fun p l e s m below meth c D cI cZ cD hA hK hN aX aM H locs ls e0 e1 hP hD hS hl => lv_iand hA.1 hA.2.1 hd (kk p l e s m below meth c D cI cZ cD hA hK hN aX aM H locs ls e0 e1 hP hD hS hl)
theorem al_len (hd : decode code pc = .ok (.arraylength, 1)) (kk : AL b L xs h0 h1 k sl (pc + 1) x3 (.int (Int32.ofNat L) :: st) σX σM) : AL b L xs h0 h1 k sl pc x3 (.ref b :: st) σX σM := fun p l e s m below meth c D cI cZ cD hA hK hN aX aM H locs ls e0 e1 hP hD hS hl => by
  obtain ⟨hx, hb, hr, hml, hown, hts, hX, hbl, hlocks, hgv⟩ := id hA
  exact va_slen hx hb hX hbl (Nat.not_le.mpr hbl) hS hd (kk p l e s m below meth c D cI cZ cD hA hK hN aX aM H locs ls e0 e1 hP hD hS hl)
theorem al_ld {i : Int32} (hin : vp_in i L) (hd : decode code pc = .ok (.iaload, 1)) (kk : AL b L xs h0 h1 k sl (pc + 1) x3 (.int (xs i.toNatClampNeg) :: st) σX σM) : AL b L xs h0 h1 k sl pc x3 (.int i :: .ref b :: st) σX σM := fun p l e s m below meth c D cI cZ cD hA hK hN aX aM H locs ls e0 e1 hP hD hS hl => by
  obtain ⟨hx, hb, hr, hml, hown, hts, hX, hbl, hlocks, hgv⟩ := id hA
  exact va_sld hx hb hX hbl (Nat.not_le.mpr hbl) hS hin hd (kk p l e s m below meth c D cI cZ cD hA hK hN aX aM H locs ls e0 e1 hP hD hS hl)
theorem al_gt {x z : Int32} {off : Int} {tgt : Nat} (hd : decode code pc = .ok (.if_icmp .gt off, 3)) (ht : (pc : Int) + off = (tgt : Int)) (kt : z < x → AL b L xs h0 h1 k sl tgt x3 st σX σM) (kf : ¬ z < x → AL b L xs h0 h1 k sl (pc + 3) x3 st σX σM) : AL b L xs h0 h1 k sl pc x3 (.int z :: .int x :: st) σX σM := fun p l e s m below meth c D cI cZ cD hA hK hN aX aM H locs ls e0 e1 hP hD hS hl => lv_icmp_gt hA.1 hA.2.1 hd ht (fun h => kt h p l e s m below meth c D cI cZ cD hA hK hN aX aM H locs ls e0 e1 hP hD hS hl) (fun h => kf h p l e s m below meth c D cI cZ cD hA hK hN aX aM H locs ls e0 e1 hP hD hS hl)
theorem al_eq {x : Int32} {off : Int} {tgt : Nat} (hd : decode code pc = .ok (.if_icmp .eq off, 3)) (ht : (pc : Int) + off = (tgt : Int)) (kt : AL b L xs h0 h1 k sl tgt x3 st σX σM) : AL b L xs h0 h1 k sl pc x3 (.int x :: .int x :: st) σX σM := fun p l e s m below meth c D cI cZ cD hA hK hN aX aM H locs ls e0 e1 hP hD hS hl => lv_icmp_eq hA.1 hA.2.1 hd ht (fun h => kt p l e s m below meth c D cI cZ cD hA hK hN aX aM H locs ls e0 e1 hP hD hS hl) (fun h => absurd rfl h)
theorem al_goto {off : Int} {tgt : Nat} (hd : decode code pc = .ok (.goto off, 3)) (ht : (pc : Int) + off = (tgt : Int)) (kt : AL b L xs h0 h1 k sl tgt x3 st σX σM) : AL b L xs h0 h1 k sl pc x3 st σX σM := fun p l e s m below meth c D cI cZ cD hA hK hN aX aM H locs ls e0 e1 hP hD hS hl => lv_goto hA.1 hA.2.1 hd ht (kt p l e s m below meth c D cI cZ cD hA hK hN aX aM H locs ls e0 e1 hP hD hS hl)
theorem al_inc {n : Int} {v : Int32} (hd : decode code pc = .ok (.iinc 3 n, 3)) (hv : Int32.ofInt n = v) (kk : AL b L xs h0 h1 k sl (pc + 3) (x3 + v) st σX σM) : AL b L xs h0 h1 k sl pc x3 st σX σM := fun p l e s m below meth c D cI cZ cD hA hK hN aX aM H locs ls e0 e1 hP hD hS hl => by
  subst hv
  exact lv_iinc (k := 3) hA.1 hA.2.1 hd hl rfl rfl (by decide) rfl (fun ls' h' => kk p l e s m below meth c D cI cZ cD hA hK hN aX aM H locs ls' e0 e1 hP hD hS (lv_sub h' [1, 2, 3, 0] rfl))
theorem al_widen {k' sl' : Nat} (q1 : k ≤ k') (q2 : sl ≤ sl') (kk : AL b L xs h0 h1 k' sl' pc x3 st σX σM) : AL b L xs h0 h1 k sl pc x3 st σX σM := fun p l e s m below meth c D cI cZ cD hA hK hN aX aM H locs ls e0 e1 hP hD hS hl => W.widen q1 q2 (kk p l e s m below meth c D cI cZ cD hA hK hN aX aM H locs ls e0 e1 hP hD hS hl)
theorem al_in {dflt : Int} {offs : Array Int} {len : Nat} {x : Int32} {off : Int} {tgt : Nat} (hd : decode code pc = .ok (.tableswitch dflt 0 19 offs, len)) (q1 : ¬ x.toInt < 0) (q2 : ¬ (19 : Int) < x.toInt) (ho : offs[(x.toInt - 0).toNat]? = some off) (ht : (pc : Int) + off = (tgt : Int)) (kk : AL b L xs h0 h1 k sl tgt x3 st σX σM) : AL b L xs h0 h1 k sl pc x3 (.int x :: st) σX σM := fun p l e s m below meth c D cI cZ cD hA hK hN aX aM H locs ls e0 e1 hP hD hS hl => lv_tableIn hA.1 hA.2.1 hd q1 q2 ho ht (kk p l e s m below meth c D cI cZ cD hA hK hN aX aM H locs ls e0 e1 hP hD hS hl)
theorem al_out {dflt : Int} {offs : Array Int} {len : Nat} {x : Int32} {tgt : Nat} (hd : decode code pc = .ok (.tableswitch dflt 0 19 offs, len)) (h : x.toInt < 0 ∨ (19 : Int) < x.toInt) (ht : (pc : Int) + dflt = (tgt : Int)) (kk : AL b L xs h0 h1 k sl tgt x3 st σX σM) : AL b L xs h0 h1 k sl pc x3 (.int x :: st) σX σM := fun p l e s m below meth c D cI cZ cD hA hK hN aX aM H locs ls e0 e1 hP hD hS hl => lv_tableOut hA.1 hA.2.1 hd h ht (kk p l e s m below meth c D cI cZ cD hA hK hN aX aM H locs ls e0 e1 hP hD hS hl)
theorem al_end (q1 : k ≤ 600000) (q2 : sl ≤ 7302250) (hd : decode code pc = .ok (.ireturn, 1)) : AL b L xs h0 h1 k sl pc x3 [.int 1] σX σM := fun p l e s m below meth c D cI cZ cD hA hK hN aX aM H locs ls e0 e1 hP hD hS hl => by
  obtain ⟨hx, hb, hr, hml, hown, hts, hX, hbl, hlocks, hgv⟩ := id hA
  refine va_forget (fun q hq => hS.2.2 q hq) ?_
  refine W.widen (k := 600000) (n := 7302250) q1 q2 ?_
  exact lw_ret hx hb hr hlocks hd
theorem avs (ad : Nat → Nat) (as : List Int32) : (as.map (fun x => (Sum.inl x : AV))).map (av_v ad) = as.map Value.int := by
  induction as with
  | nil => rfl
  | cons a l ih => simp only [List.map_cons, ih]; rfl
theorem sub_l {D : va_G} {cl : List vw_C} {A : Nat → Prop} {w1 w2 : va_W} {H : Heap} (hP : va_P D cl (w1 ++ w2) H) (hD : va_D A (w1 ++ w2)) : va_P D cl w2 H ∧ va_D (fun _ => True) w2 := by
  refine ⟨fun i q hq => hP (w1.length + i) q (by rw [List.getElem?_append_right (by omega)]; simpa using hq), fun i j x z hx hz hxz => ?_, fun _ _ _ => trivial⟩
  have := hD.1 (w1.length + i) (w1.length + j) x z (by rw [List.getElem?_append_right (by omega)]; simpa using hx) (by rw [List.getElem?_append_right (by omega)]; simpa using hz) hxz
  omega
theorem law_run {p : Program} {l : Launch} {e : Env} {s : State} {m : MethodId} {below : List Frame} {meth : Method} {c : Code} {D : va_G} {cI cZ cD : ClassId} {H : Heap} {locs : List Loc} {ls : Array Slot} {wl : WL} {ad : Nat → Nat} {y2 : MethodName} {cc2 : ByteArray} {nL2 : Nat} {ret2 : Option FieldType} {rm2 : Room} {K2 : Option (Int32 × ST)} {r : Int32} {σ σ' : ST} {as : List Int32} {idx ci : Nat} {fs : List AV} {T : u_T} {N : Nat} {wr : va_W} {Q : State → Prop}
    (hA : lw_At p s m meth c b L xs) (hK : va_K D vwCl (tys3 cI cZ cD) s) (hP : va_P D vwCl (wr ++ wl cI cZ cD ad σ) H) (hD : va_D (AX s) (wr ++ wl cI cZ cD ad σ)) (hS : va_S (AX s) s.heap H locs) (hsz : ls.size = 4)
    (hM : MS wl y2 cc2 nL2 ret2 rm2 emI (.inr (some 0) :: as.map (fun x => (Sum.inl x : AV))) σ K2) (hK2 : K2 = some (r, σ')) (hO : ObjAt wl σ 0 ci fs) (hc : vwCl[ci]? = some (y2.cls, T, N)) (hC2 : CallOK R_law idx y2 cc2 nL2 ret2 as.length) (hR : RoomOK room_1 rm2 nL2) (hf : k ≤ 600000 ∧ sl ≤ 7302250) (hst : (st.map fun v => v.category).sum ≤ 8) (hd : decode code pc = .ok (.invokevirtual idx, 3))
    (kk : ∀ (H1 : Heap) (locs1 : List Loc), va_P D vwCl (wr ++ wl cI cZ cD ad σ') H1 → va_D (AX s) (wr ++ wl cI cZ cD ad σ') → va_S (AX s) s.heap H1 locs1 → W p l e room_1 s m #[Value.ref b] below meth c H1 locs1 k sl Q (F0 m (pc + 3) ls (.int r :: st))) :
    W p l e room_1 s m #[Value.ref b] below meth c H locs k sl Q (F0 m pc ls ((as.map Value.int).reverse ++ .ref (ad 0) :: st)) := by
  obtain ⟨hx, hb, hr, hml, hown, hts, hX, hbl, hlocks, hgv⟩ := id hA
  obtain ⟨hPc, hDc⟩ := sub_l hP hD
  obtain ⟨c1, c2, c3, c4, c5, c6, c7, c8⟩ := hC2
  obtain ⟨R1, R2, R3, R4⟩ := hR
  have ht : ∀ w ∈ WT, w.before #[Value.ref b] s = true := fun w hw => hts w (List.mem_filter.mp hw).1
  have cw : CallW room_1 s #[Value.ref b] R_law y2.cls idx y2 cc2 nL2 ret2 (Cond.code y2 cc2 nL2 ret2 :: WT) rm2 0 0 as.length :=
    ⟨callB_of as.length hts (wt_goodL c5) rfl R1 R2 (ht _ c4) (ht _ c1) ⟨c6, c7, c8⟩ ⟨R3, R4⟩, ht _ c2, ht _ c3⟩
  have hMet := hM r σ' hK2 l D cI cZ cD ad H.size
  have hrun := va_runV (l := l) (e := e) (below := below) (meth := meth) (locs := locs) (cells := k) (slots := sl) (H := H) (b := ad 0) (As := as.map Value.int) (rest := st) (g := F0 m pc ls ((as.map Value.int).reverse ++ .ref (ad 0) :: st))
    ⟨hx, hb, hml, hown, hts⟩ hMet cw
    ⟨pc_blind, va_recv hK hPc hc (hO cI cZ cD ad), fun U hU hW => ⟨by rw [List.map_cons, avs]; rfl, by rw [hU], by rw [hU]; exact hPc, va_K.moved hW.alike hK, hDc⟩⟩
    rfl (by simp) hsz rfl (lv_room hst) hd hf
  have hin : ∀ q, va_A (wl cI cZ cD ad σ) H.size q → AX s q := by
    rintro q (⟨i, e, hk⟩ | hq)
    · exact hD.2 (wr.length + i) (q, e) (by rw [List.getElem?_append_right (by omega)]; simpa using hk)
    · exact Nat.le_trans hS.1 hq
  intro T' hT X
  obtain ⟨v, st₀, t, T2, Lc, h0, X', hL, e1, e2, ⟨hv, hP2, hK3, hD2, hz, hk⟩, stp⟩ := hrun T' hT X
  rw [h0] at hz hk
  have hv' : v = some (.int r) := by cases hv; rfl
  subst hv'
  rw [← e1] at hP2 hz hk
  obtain ⟨jP, jD⟩ := join_r hP hD hk hin hP2 hD2
  obtain ⟨t2, a1, b1⟩ := kk T2.heap (locs ++ Lc) jP jD
    ⟨Nat.le_trans hS.1 hz, fun q h1 h2 => by rw [hk q (Nat.lt_of_lt_of_le h1 hS.1) (fun z => h2 (hin q z))]; exact hS.2.1 q h1 h2, fun q hq => by
      rcases List.mem_append.mp hq with h | h
      · exact hS.2.2 q h
      · exact hin _ (hL q h)⟩ T2 rfl X'
  exact ⟨t2, stp t2 a1, b1⟩
theorem al_callM {y2 : MethodName} {cc2 : ByteArray} {nL2 : Nat} {ret2 : Option FieldType} {rm2 : Room} {K2 : Option (Int32 × ST)} {r : Int32} {σM' : ST} {as : List Int32} {idx : Nat} {stk : List Value}
    (hM : MS wlM y2 cc2 nL2 ret2 rm2 emI (.inr (some 0) :: as.map (fun x => (Sum.inl x : AV))) σM K2) (hK2 : K2 = some (r, σM')) (hcls : y2.cls = RX5) (hC2 : CallOK R_law idx y2 cc2 nL2 ret2 as.length) (hR : RoomOK room_1 rm2 nL2) (hf : k ≤ 600000 ∧ sl ≤ 7302250) (hst : (st.map fun v => v.category).sum ≤ 8) (hd : decode code pc = .ok (.invokevirtual idx, 3)) (hstk : stk = (as.map Value.int).reverse ++ .ref h1 :: st)
    (kk : AL b L xs h0 h1 k sl (pc + 3) x3 (.int r :: st) σX σM') : AL b L xs h0 h1 k sl pc x3 stk σX σM := fun p l e s m below meth c D cI cZ cD hA hK hN aX aM H locs ls e0 e1 hP hD hS hl => by
  subst hstk; subst e1
  exact law_run (T := TX5) (N := 32) hA hK hP hD hS hl.1 hM hK2 (atM0 σM) (by rw [hcls]; rfl) hC2 hR hf hst hd (fun H1 locs1 hP1 hD1 hS1 => kk p l e s m below meth c D cI cZ cD hA hK hN aX aM H1 locs1 ls e0 rfl hP1 hD1 hS1 hl)
theorem al_callX {y2 : MethodName} {cc2 : ByteArray} {nL2 : Nat} {ret2 : Option FieldType} {rm2 : Room} {K2 : Option (Int32 × ST)} {r : Int32} {σX' : ST} {as : List Int32} {idx : Nat} {stk : List Value}
    (hM : MS wlX y2 cc2 nL2 ret2 rm2 emI (.inr (some 0) :: as.map (fun x => (Sum.inl x : AV))) σX K2) (hK2 : K2 = some (r, σX')) (hcls : y2.cls = RX4) (hC2 : CallOK R_law idx y2 cc2 nL2 ret2 as.length) (hR : RoomOK room_1 rm2 nL2) (hf : k ≤ 600000 ∧ sl ≤ 7302250) (hst : (st.map fun v => v.category).sum ≤ 8) (hd : decode code pc = .ok (.invokevirtual idx, 3)) (hstk : stk = (as.map Value.int).reverse ++ .ref h0 :: st)
    (kk : AL b L xs h0 h1 k sl (pc + 3) x3 (.int r :: st) σX' σM) : AL b L xs h0 h1 k sl pc x3 stk σX σM := fun p l e s m below meth c D cI cZ cD hA hK hN aX aM H locs ls e0 e1 hP hD hS hl => by
  subst hstk; subst e0
  exact law_run (T := TX4) (N := 8) hA hK (swapP hP) (swapD hD) hS hl.1 hM hK2 (atX0 σX) (by rw [hcls]; rfl) hC2 hR hf hst hd (fun H1 locs1 hP1 hD1 hS1 => kk p l e s m below meth c D cI cZ cD hA hK hN aX aM H1 locs1 ls rfl e1 (swapP hP1) (swapD hD1) hS1 hl)
theorem al_drive {r : Int32} {σX' : ST} {idx : Nat} (hRV : RV σX) (hK2 : fX4_drive σX = some (r, σX')) (hC2 : CallOK R_law idx yX4_drive cX4_drive 1 (some .int) 0) (hf : k + 5 ≤ 600000 ∧ sl + 85 ≤ 7302250) (hst : (st.map fun v => v.category).sum ≤ 8) (hd : decode code pc = .ok (.invokevirtual idx, 3))
    (kk : AL b L xs h0 h1 (k + 5) (sl + 85) (pc + 3) x3 (.int r :: st) σX' σM) : AL b L xs h0 h1 k sl pc x3 (.ref h0 :: st) σX σM := fun p l e s m below meth c D cI cZ cD hA hK hN aX aM H locs ls e0 e1 hP hD hS hl => by
  subst e0
  obtain ⟨hx, hb, hr, hml, hown, hts, hX, hbl, hlocks, hgv⟩ := id hA
  have hP' := swapP hP
  have hD' := swapD hD
  obtain ⟨hPc, hDc⟩ := sub_l hP' hD'
  obtain ⟨c1, c2, c3, c4, c5, c6, c7, c8⟩ := hC2
  have ht : ∀ w ∈ WT, w.before #[Value.ref b] s = true := fun w hw => hts w (List.mem_filter.mp hw).1
  have cw : CallW room_1 s #[Value.ref b] R_law yX4_drive.cls idx yX4_drive cX4_drive 1 (some .int) (Cond.code yX4_drive cX4_drive 1 (some .int) :: WT) rmX4_drive 5 85 0 :=
    ⟨callB_of 0 hts (wt_goodL c5) rfl rfl rfl (ht _ c4) (ht _ c1) ⟨c6, c7, c8⟩ ⟨by decide, by decide⟩, ht _ c2, ht _ c3⟩
  have hrun := va_runV (l := l) (e := e) (below := below) (meth := meth) (locs := locs) (cells := k) (slots := sl) (H := H) (b := aX 0) (As := []) (rest := st) (g := F0 m pc ls (.ref (aX 0) :: st))
    ⟨hx, hb, hml, hown, hts⟩ (conX4_drive D cI cZ cD aX σX hRV r σX' hK2 l H.size) cw
    ⟨cm_blind, va_recv (ci := 4) (q := (RX4, TX4, 8)) hK hPc rfl (atX0 σX cI cZ cD aX), fun U hU hW => ⟨rfl, by rw [hU], by rw [hU]; exact hPc, va_K.moved hW.alike hK, hDc, NW.warm hW hN⟩⟩
    rfl rfl hl.1 rfl (lv_room hst) hd hf
  refine acm_next hrun hP' hD' hS (fun q hq => hq) (fun v w1 H1 locs1 hpo hP1 hD1 hS1 => ?_)
  obtain ⟨ad', rfl, rfl, hag⟩ := hpo
  exact kk p l e s m below meth c D cI cZ cD hA hK hN ad' aM H1 locs1 ls (hag 0 (by show 0 < 26 + 5 * _; omega)) e1 (swapP hP1) (swapD hD1) hS1 hl
end ALR
