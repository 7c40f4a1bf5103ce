-- printed by gen5.py: the law from its entry
def sX0 : ST := (fun k => if k = 3 then (fun j => if j = 0 then 20 else if j = 1 then 200 else 0) else fun _ => 0, fun _ _ => none, 0)
def sM0 : ST := (fun k => if k = 0 then (fun j => if j = 16 then 20 else if j = 17 then 200 else 0) else fun _ => 0, fun _ _ => none, 0)
theorem liL_9 : Cond.methodLink R_law 9 yX4_init ∈ WT := wt_in 56 (by decide +kernel) rfl
theorem liL_12 : Cond.methodLink R_law 12 yX5_init ∈ WT := wt_in 548 (by decide +kernel) rfl
theorem insX0 : Cond.instantiable RX0 5 ∈ lw_tbl := List.mem_of_getElem? (i := 335) (by decide +kernel)
theorem insX1 : Cond.instantiable RX1 16 ∈ lw_tbl := List.mem_of_getElem? (i := 131) (by decide +kernel)
theorem insX2 : Cond.instantiable RX2 10 ∈ lw_tbl := List.mem_of_getElem? (i := 63) (by decide +kernel)
theorem insX3 : Cond.instantiable RX3 4 ∈ lw_tbl := List.mem_of_getElem? (i := 111) (by decide +kernel)
theorem insX4 : Cond.instantiable RX4 8 ∈ lw_tbl := List.mem_of_getElem? (i := 55) (by decide +kernel)
theorem insX5 : Cond.instantiable RX5 32 ∈ lw_tbl := List.mem_of_getElem? (i := 547) (by decide +kernel)
theorem nst_1 : Cond.methodLinkNest RX4 11 yX2_init RX4 ∈ lw_tbl := List.mem_of_getElem? (i := 64) (by decide +kernel)
theorem nst_2 : Cond.methodLinkNest RX4 97 yX0_init RX4 ∈ lw_tbl := List.mem_of_getElem? (i := 336) (by decide +kernel)
theorem nst_3 : Cond.arrayOver (.object "RoadTrace$Drive") ∈ lw_tbl := List.mem_of_getElem? (i := 191) (by decide +kernel)
theorem law_K {s : State} {b : Nat} (hts : ∀ w ∈ lw_tbl, w.before #[Value.ref b] s = true) : ∃ (D : va_G) (cI cZ cD : ClassId), va_K D vwCl (tys3 cI cZ cD) s := by
  obtain ⟨c0, i0, k0⟩ := u_known (C := RX0) (T := TX0) (N := 5) (n := 5) hts inX0 (hts _ insX0)
  obtain ⟨c1, i1, k1⟩ := u_known (C := RX1) (T := TX1) (N := 16) (n := 16) hts inX1 (hts _ insX1)
  obtain ⟨c2, i2, k2⟩ := u_known (C := RX2) (T := TX2) (N := 10) (n := 10) hts inX2 (hts _ insX2)
  obtain ⟨c3, i3, k3⟩ := u_known (C := RX3) (T := TX3) (N := 4) (n := 4) hts inX3 (hts _ insX3)
  obtain ⟨c4, i4, k4⟩ := u_known (C := RX4) (T := TX4) (N := 8) (n := 8) hts inX4 (hts _ insX4)
  obtain ⟨c5, i5, k5⟩ := u_known (C := RX5) (T := TX5) (N := 32) (n := 32) hts inX5 (hts _ insX5)
  obtain ⟨cI, kI, pI, a1, a2, a3⟩ := Cond.arrayClass_spec (hts (.arrayClass .int) (List.mem_filter.mp wi_aI).1)
  obtain ⟨cZ, kZ, pZ, b1, b2, b3⟩ := Cond.arrayClass_spec (hts (.arrayClass .boolean) (List.mem_filter.mp wi_aZ).1)
  obtain ⟨pD, cD, kD, d1, d2, d3, d4, d5⟩ := Cond.arrayOver_spec (hts _ nst_3)
  refine ⟨(fun k => if k = 0 then c0 else if k = 1 then c1 else if k = 2 then c2 else if k = 3 then c3 else if k = 4 then c4 else c5, fun k => if k = 0 then i0 else if k = 1 then i1 else if k = 2 then i2 else if k = 3 then i3 else if k = 4 then i4 else i5), cI, cZ, cD, fun k q hq => ?_, fun k q hq => ?_⟩
  · match k, hq with
    | 0, hq => cases hq; exact k0
    | 1, hq => cases hq; exact k1
    | 2, hq => cases hq; exact k2
    | 3, hq => cases hq; exact k3
    | 4, hq => cases hq; exact k4
    | 5, hq => cases hq; exact k5
    | k + 6, hq => simp [vwCl] at hq
  · match k, hq with
    | 0, hq => cases hq; exact ⟨fun n z => ⟨fun k h => (by cases h), kI, a2, pI, a3⟩, a1⟩
    | 1, hq => cases hq; exact ⟨fun n z => ⟨fun k h => (by cases h), kZ, b2, pZ, b3⟩, b1⟩
    | 2, hq => cases hq; exact ⟨fun n z => ⟨fun k h => (by cases h), kD, d3, pD, d4⟩, kD, pD, d3, d4, d1, d5⟩
    | k + 3, hq => simp [tys3] at hq
set_option maxHeartbeats 4000000 in
set_option maxRecDepth 100000 in
theorem law_world {D : va_G} {cI cZ cD : ClassId} {A : Nat → Prop} {H : Heap} (h0 h1 x_n1 x_p2 x_p3 x_p4 x_p5 x_p6 x_p7 x_p8 x_p9 x_n10 x_p11 x_p12 x_p13 x_n14 x_p15 x_p16 x_p17 x_p18 x_p19 x_p20 x_p21 x_p22 x_q23 x_q24 x_q25 m_q1 m_q2 m_q3 m_q4 m_q5 m_q6 m_q7 m_q8 m_q9 m_q10 m_q11 m_q12 m_q13 m_q14 m_q15 m_q16 m_q17 m_q18 m_q19 m_q20 m_q21 m_q22 m_q23 : Nat) (hP : va_P D vwCl ([(h0, .inr (4, [.ref x_n1, .ref x_n10, .ref x_n14, .ref x_q23, .int 0, .ref x_q24, .int 0, .ref x_q25])), (x_n1, .inr (2, [.int 0, .ref x_p2, .ref x_p3, .int 0, .ref x_p4, .ref x_p5, .ref x_p6, .ref x_p7, .ref x_p8, .ref x_p9])), (x_p2, .inl (cI, 16, .inl (fun _ => 0))), (x_p3, .inl (cI, 16, .inl (fun _ => 0))), (x_p4, .inl (cI, 30, .inl (fun _ => 0))), (x_p5, .inl (cI, 30, .inl (fun _ => 0))), (x_p6, .inl (cI, 30, .inl (fun _ => 0))), (x_p7, .inl (cI, 30, .inl (fun _ => 0))), (x_p8, .inl (cI, 60, .inl (fun _ => 0))), (x_p9, .inl (cI, 60, .inl (fun _ => 0))), (x_n10, .inr (3, [.ref x_n1, .ref x_p11, .ref x_p12, .ref x_p13])), (x_p11, .inl (cI, 3600, .inl (fun _ => 0))), (x_p12, .inl (cZ, 60, .inl (fun _ => 0))), (x_p13, .inl (cZ, 60, .inl (fun _ => 0))), (x_n14, .inr (1, [.int 20, .int 200, .ref x_p15, .ref x_p16, .ref x_p17, .ref x_n1, .ref x_n10, .ref x_p18, .ref x_p19, .ref x_p20, .ref x_p21, .ref x_p22, .null, .int 0, .int 0, .int 0])), (x_p15, .inl (cI, 20, .inl (fun _ => 0))), (x_p16, .inl (cI, 200, .inl (fun _ => 0))), (x_p17, .inl (cI, 20, .inl (fun _ => 0))), (x_p18, .inl (cI, 200, .inl (fun _ => 0))), (x_p19, .inl (cI, 200, .inl (fun _ => 0))), (x_p20, .inl (cI, 200, .inl (fun _ => 0))), (x_p21, .inl (cI, 20, .inl (fun _ => 0))), (x_p22, .inl (cI, 20, .inl (fun _ => 0))), (x_q23, .inl (cD, 6, .inr (.inr (.inr (.inr (fun _ => none)))))), (x_q24, .inl (cI, 20, .inl (fun _ => 0))), (x_q25, .inl (cI, 6, .inl (fun _ => 0)))] ++ [(h1, .inr (5, [.ref m_q1, .ref m_q2, .int 0, .ref m_q3, .ref m_q4, .ref m_q5, .ref m_q6, .ref m_q7, .int 0, .ref m_q8, .ref m_q9, .ref m_q10, .ref m_q11, .ref m_q12, .ref m_q13, .int 0, .int 20, .int 200, .ref m_q14, .int 0, .int 0, .ref m_q15, .ref m_q16, .ref m_q17, .ref m_q18, .ref m_q19, .ref m_q20, .ref m_q21, .ref m_q22, .ref m_q23, .int 0, .int 0])), (m_q1, .inl (cI, 16, .inl (fun _ => 0))), (m_q2, .inl (cI, 16, .inl (fun _ => 0))), (m_q3, .inl (cI, 30, .inl (fun _ => 0))), (m_q4, .inl (cI, 30, .inl (fun _ => 0))), (m_q5, .inl (cI, 30, .inl (fun _ => 0))), (m_q6, .inl (cI, 30, .inl (fun _ => 0))), (m_q7, .inl (cI, 30, .inl (fun _ => 0))), (m_q8, .inl (cZ, 900, .inl (fun _ => 0))), (m_q9, .inl (cI, 120, .inl (fun _ => 0))), (m_q10, .inl (cI, 120, .inl (fun _ => 0))), (m_q11, .inl (cI, 120, .inl (fun _ => 0))), (m_q12, .inl (cI, 120, .inl (fun _ => 0))), (m_q13, .inl (cI, 6, .inl (fun _ => 0))), (m_q14, .inl (cI, 20, .inl (fun _ => 0))), (m_q15, .inl (cI, 22500, .inl (fun _ => 0))), (m_q16, .inl (cI, 22500, .inl (fun _ => 0))), (m_q17, .inl (cI, 60, .inl (fun _ => 0))), (m_q18, .inl (cI, 60, .inl (fun _ => 0))), (m_q19, .inl (cI, 200, .inl (fun _ => 0))), (m_q20, .inl (cI, 20, .inl (fun _ => 0))), (m_q21, .inl (cI, 200, .inl (fun _ => 0))), (m_q22, .inl (cI, 20, .inl (fun _ => 0))), (m_q23, .inl (cI, 20, .inl (fun _ => 0)))]) H) (hD : va_D A ([(h0, .inr (4, [.ref x_n1, .ref x_n10, .ref x_n14, .ref x_q23, .int 0, .ref x_q24, .int 0, .ref x_q25])), (x_n1, .inr (2, [.int 0, .ref x_p2, .ref x_p3, .int 0, .ref x_p4, .ref x_p5, .ref x_p6, .ref x_p7, .ref x_p8, .ref x_p9])), (x_p2, .inl (cI, 16, .inl (fun _ => 0))), (x_p3, .inl (cI, 16, .inl (fun _ => 0))), (x_p4, .inl (cI, 30, .inl (fun _ => 0))), (x_p5, .inl (cI, 30, .inl (fun _ => 0))), (x_p6, .inl (cI, 30, .inl (fun _ => 0))), (x_p7, .inl (cI, 30, .inl (fun _ => 0))), (x_p8, .inl (cI, 60, .inl (fun _ => 0))), (x_p9, .inl (cI, 60, .inl (fun _ => 0))), (x_n10, .inr (3, [.ref x_n1, .ref x_p11, .ref x_p12, .ref x_p13])), (x_p11, .inl (cI, 3600, .inl (fun _ => 0))), (x_p12, .inl (cZ, 60, .inl (fun _ => 0))), (x_p13, .inl (cZ, 60, .inl (fun _ => 0))), (x_n14, .inr (1, [.int 20, .int 200, .ref x_p15, .ref x_p16, .ref x_p17, .ref x_n1, .ref x_n10, .ref x_p18, .ref x_p19, .ref x_p20, .ref x_p21, .ref x_p22, .null, .int 0, .int 0, .int 0])), (x_p15, .inl (cI, 20, .inl (fun _ => 0))), (x_p16, .inl (cI, 200, .inl (fun _ => 0))), (x_p17, .inl (cI, 20, .inl (fun _ => 0))), (x_p18, .inl (cI, 200, .inl (fun _ => 0))), (x_p19, .inl (cI, 200, .inl (fun _ => 0))), (x_p20, .inl (cI, 200, .inl (fun _ => 0))), (x_p21, .inl (cI, 20, .inl (fun _ => 0))), (x_p22, .inl (cI, 20, .inl (fun _ => 0))), (x_q23, .inl (cD, 6, .inr (.inr (.inr (.inr (fun _ => none)))))), (x_q24, .inl (cI, 20, .inl (fun _ => 0))), (x_q25, .inl (cI, 6, .inl (fun _ => 0)))] ++ [(h1, .inr (5, [.ref m_q1, .ref m_q2, .int 0, .ref m_q3, .ref m_q4, .ref m_q5, .ref m_q6, .ref m_q7, .int 0, .ref m_q8, .ref m_q9, .ref m_q10, .ref m_q11, .ref m_q12, .ref m_q13, .int 0, .int 20, .int 200, .ref m_q14, .int 0, .int 0, .ref m_q15, .ref m_q16, .ref m_q17, .ref m_q18, .ref m_q19, .ref m_q20, .ref m_q21, .ref m_q22, .ref m_q23, .int 0, .int 0])), (m_q1, .inl (cI, 16, .inl (fun _ => 0))), (m_q2, .inl (cI, 16, .inl (fun _ => 0))), (m_q3, .inl (cI, 30, .inl (fun _ => 0))), (m_q4, .inl (cI, 30, .inl (fun _ => 0))), (m_q5, .inl (cI, 30, .inl (fun _ => 0))), (m_q6, .inl (cI, 30, .inl (fun _ => 0))), (m_q7, .inl (cI, 30, .inl (fun _ => 0))), (m_q8, .inl (cZ, 900, .inl (fun _ => 0))), (m_q9, .inl (cI, 120, .inl (fun _ => 0))), (m_q10, .inl (cI, 120, .inl (fun _ => 0))), (m_q11, .inl (cI, 120, .inl (fun _ => 0))), (m_q12, .inl (cI, 120, .inl (fun _ => 0))), (m_q13, .inl (cI, 6, .inl (fun _ => 0))), (m_q14, .inl (cI, 20, .inl (fun _ => 0))), (m_q15, .inl (cI, 22500, .inl (fun _ => 0))), (m_q16, .inl (cI, 22500, .inl (fun _ => 0))), (m_q17, .inl (cI, 60, .inl (fun _ => 0))), (m_q18, .inl (cI, 60, .inl (fun _ => 0))), (m_q19, .inl (cI, 200, .inl (fun _ => 0))), (m_q20, .inl (cI, 20, .inl (fun _ => 0))), (m_q21, .inl (cI, 200, .inl (fun _ => 0))), (m_q22, .inl (cI, 20, .inl (fun _ => 0))), (m_q23, .inl (cI, 20, .inl (fun _ => 0)))])) : ∃ aX aM : Nat → Nat, aX 0 = h0 ∧ aM 0 = h1 ∧ va_P D vwCl (wlX cI cZ cD aX sX0 ++ wlM cI cZ cD aM sM0) H ∧ va_D A (wlX cI cZ cD aX sX0 ++ wlM cI cZ cD aM sM0) := by
  refine ⟨fun k => [h0, x_n1, x_n10, x_n14, x_q23, x_q24, x_q25, x_p2, x_p3, x_p4, x_p5, x_p6, x_p7, x_p8, x_p9, x_p11, x_p12, x_p13, x_p15, x_p16, x_p17, x_p18, x_p19, x_p20, x_p21, x_p22].getD k 0, fun k => [h1, m_q1, m_q2, m_q3, m_q4, m_q5, m_q6, m_q7, m_q8, m_q9, m_q10, m_q11, m_q12, m_q13, m_q14, m_q15, m_q16, m_q17, m_q18, m_q19, m_q20, m_q21, m_q22, m_q23].getD k 0, rfl, rfl, ?_, ?_⟩
  · exact hP.sub [0, 1, 10, 14, 23, 24, 25, 2, 3, 4, 5, 6, 7, 8, 9, 11, 12, 13, 15, 16, 17, 18, 19, 20, 21, 22, 26, 27, 28, 29, 30, 31, 32, 33, 34, 35, 36, 37, 38, 39, 40, 41, 42, 43, 44, 45, 46, 47, 48, 49] rfl
  · exact hD.sub [0, 1, 10, 14, 23, 24, 25, 2, 3, 4, 5, 6, 7, 8, 9, 11, 12, 13, 15, 16, 17, 18, 19, 20, 21, 22, 26, 27, 28, 29, 30, 31, 32, 33, 34, 35, 36, 37, 38, 39, 40, 41, 42, 43, 44, 45, 46, 47, 48, 49] (by decide) rfl
set_option maxHeartbeats 4000000 in
set_option maxRecDepth 100000 in
theorem whole_sim {Inv : ST → ST → Prop} (S : Sim Inv) (hI : Inv sX0 sM0) {p : Program} {e : Env} {s : State} {m : MethodId} {below : List Frame} {meth : Method} {c : Code} (l : Launch) {b L : Nat} {xs : Nat → Int32} (hL : L ≤ 2560) (C0 : lw_At p s m meth c b L xs) : W p l e room_1 s m #[Value.ref b] below meth c s.heap [] 0 0 (lw_Z below #[Value.ref b] s) (entryFrame m ([Value.ref b] : List Value).toArray 4) := by
  obtain ⟨hx, hb, hr, hml, hown, hts, hX, hbl, hlocks, hgv⟩ := id C0
  have hA : ∀ q : Nat, s.heap.size ≤ q → AX s q := fun _ h => h
  obtain ⟨D, cI, cZ, cD, hK⟩ := law_K hts
  have ht : ∀ w ∈ WT, w.before #[Value.ref b] s = true := fun w hw => hts w (List.mem_filter.mp hw).1
  have hN : NW s := ⟨va_Nw.of rfl (hts _ nst_1), va_Nw.of rfl (hts _ nst_2), va_AO.of (hts _ nst_3)⟩
  have hS : va_S (AX s) s.heap s.heap [] := va_S.rf
  have hP : va_P D vwCl [] s.heap := fun k q h => by simp at h
  have hD : va_D (AX s) [] := ⟨fun i j p q h => by simp at h, fun k q h => by simp at h⟩
  have hl := lv_entry ([.ref b]) (n := 4) (Nat.le_of_ble_eq_true rfl)
  rw [lg_entry_eq]
  generalize (lg_sl ([.ref b]) ++ List.replicate (4 - (lg_sl ([.ref b])).length) Slot.unset).toArray = ls at hl ⊢
  have hl : lv_has ls 4 [(0, .ref b)] := hl
  refine va_new (ci := 4) (fs := [.null, .null, .null, .null, .int 0, .null, .int 0, .null]) (C := RX4) (T := TX4) (N := 8) hx hb hts inX4 tyX4 tyX4_ok hown (hts (.classLink R_law 7 RX4) (by decide +kernel)) (hts _ insX4) (hts (.initialized RX4) (by decide +kernel)) hK hP hD hS hA rfl (by decide +kernel) (by decide) (by decide) dL_law_0 (fun h0 H hP hD hS => ?_)
  refine lv_dup hx hb dL_law_3 rfl ?_
  have hrun := va_runI (l := l) (e := e) (below := below) (meth := meth) (locs := []) (cells := 1) (slots := 8) (H := H) (b := h0) (As := []) (rest := [.ref h0]) (g := F0 m 4 ls [.ref h0, .ref h0]) (n := 0) (bytes := cX4_init) (maxL := 1) (R := room_1)
    ⟨hx, hb, hml, hown, hts⟩ (conX4 D cI cZ cD h0 l H.size) ⟨callB_of 0 hts (wt_goodL (@ioX4 "").2.2.1) rfl rfl rfl (ht _ (@ioX4 "").2.1) (ht _ liL_9) ⟨(@ioX4 "").2.2.2.1, (@ioX4 "").2.2.2.2.1, (@ioX4 "").2.2.2.2.2.1⟩ ⟨by decide, by decide⟩, rfl, ht _ (@ioX4 "").1⟩
    ⟨cm_blind, fun U hU hW2 => ⟨rfl, by rw [hU], by rw [hU]; exact hP, va_K.moved hW2.alike hK, hD.weaken (fun _ _ _ _ => trivial), NW.warm hW2 hN⟩⟩
    rfl rfl hl.1 rfl (lv_room (Nat.le_of_ble_eq_true rfl)) dL_law_4 ⟨by decide, by decide⟩
  refine acm_next (wr := []) hrun hP hD hS hA (fun v w1 H locs1 hpo hP hD hS => ?_)
  obtain ⟨rfl, x_n1, x_p2, x_p3, x_p4, x_p5, x_p6, x_p7, x_p8, x_p9, x_n10, x_p11, x_p12, x_p13, x_n14, x_p15, x_p16, x_p17, x_p18, x_p19, x_p20, x_p21, x_p22, x_q23, x_q24, x_q25, rfl⟩ := hpo
  refine lv_astore_n (lv' := [(1, .ref h0), (0, .ref b)]) hx hb dL_law_7 rfl hl (by decide) rfl (fun ls hl => ?_)
  refine va_new (ci := 5) (fs := [.null, .null, .int 0, .null, .null, .null, .null, .null, .int 0, .null, .null, .null, .null, .null, .null, .int 0, .int 0, .int 0, .null, .int 0, .int 0, .null, .null, .null, .null, .null, .null, .null, .null, .null, .int 0, .int 0]) (C := RX5) (T := TX5) (N := 32) hx hb hts inX5 tyX5 tyX5_ok hown (hts (.classLink R_law 10 RX5) (by decide +kernel)) (hts _ insX5) (hts (.initialized RX5) (by decide +kernel)) hK hP hD hS hA rfl (by decide +kernel) (by decide) (by decide) dL_law_8 (fun h1 H hP hD hS => ?_)
  refine lv_dup hx hb dL_law_11 rfl ?_
  obtain ⟨hPc, hDc⟩ := sub_l hP hD
  have hrun := va_runI (l := l) (e := e) (below := below) (meth := meth) (locs := locs1) (cells := 27) (slots := 4974) (H := H) (b := h1) (As := []) (rest := [.ref h1]) (g := F0 m 12 ls [.ref h1, .ref h1]) (n := 0) (bytes := cX5_init) (maxL := 1) (R := room_1)
    ⟨hx, hb, hml, hown, hts⟩ (conX5 D cI cZ cD h1 l H.size) ⟨callB_of 0 hts (wt_goodL (@ioX5 "").2.2.1) rfl rfl rfl (ht _ (@ioX5 "").2.1) (ht _ liL_12) ⟨(@ioX5 "").2.2.2.1, (@ioX5 "").2.2.2.2.1, (@ioX5 "").2.2.2.2.2.1⟩ ⟨by decide, by decide⟩, rfl, ht _ (@ioX5 "").1⟩
    ⟨cm_blind, fun U hU hW2 => ⟨rfl, by rw [hU], by rw [hU]; exact hPc, va_K.moved hW2.alike hK, hDc, NW.warm hW2 hN⟩⟩
    rfl rfl hl.1 rfl (lv_room (Nat.le_of_ble_eq_true rfl)) dL_law_12 ⟨by decide, by decide⟩
  refine acm_next hrun hP hD hS hA (fun v w1 H locs1 hpo hP hD hS => ?_)
  obtain ⟨rfl, m_q1, m_q2, m_q3, m_q4, m_q5, m_q6, m_q7, m_q8, m_q9, m_q10, m_q11, m_q12, m_q13, m_q14, m_q15, m_q16, m_q17, m_q18, m_q19, m_q20, m_q21, m_q22, m_q23, rfl⟩ := hpo
  refine lv_astore_n (lv' := [(2, .ref h1), (1, .ref h0), (0, .ref b)]) hx hb dL_law_15 rfl hl (by decide) rfl (fun ls hl => ?_)
  refine lv_iconst (v := 0) hx hb dL_law_16 (by decide) ?_
  refine lv_istore_n (lv' := [(3, .int 0), (2, .ref h1), (1, .ref h0), (0, .ref b)]) hx hb dL_law_17 rfl hl (by decide) rfl (fun ls hl => ?_)
  obtain ⟨aX, aM, e0, e1, hP, hD⟩ := law_world _ _ _ _ _ _ _ _ _ _ _ _ _ _ _ _ _ _ _ _ _ _ _ _ _ _ _ _ _ _ _ _ _ _ _ _ _ _ _ _ _ _ _ _ _ _ _ _ _ _ hP hD
  exact law_loop S hL (L + 1) 0 sX0 sM0 (by omega) (by omega) hI p l e s m below meth c D cI cZ cD C0 hK hN aX aM H locs1 ls e0 e1 hP hD hS (lv_sub hl [3, 2, 1, 0] rfl)
