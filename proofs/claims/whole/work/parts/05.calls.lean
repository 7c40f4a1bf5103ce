-- entry of a method, and calls (own work)
theorem va_A_wl {ws ws' : va_W} {sz : Nat} (h : ws.map Prod.fst = ws'.map Prod.fst) (q : Nat) : va_A ws sz q ↔ va_A ws' sz q := by
  have key : ∀ (w w' : va_W), w.map Prod.fst = w'.map Prod.fst → va_A w sz q → va_A w' sz q := by
    intro w w' hw hq
    rcases hq with ⟨k, e, hk⟩ | hq
    · have h1 : (w.map Prod.fst)[k]? = some q := by rw [List.getElem?_map, hk]; rfl
      rw [hw, List.getElem?_map] at h1
      cases hk' : w'[k]? with
      | none => rw [hk'] at h1; cases h1
      | some qe =>
        rw [hk'] at h1
        have h2 : qe.1 = q := Option.some.inj h1
        exact Or.inl ⟨k, qe.2, by rw [hk', ← h2]⟩
    · exact Or.inr hq
  exact ⟨key _ _ h, key _ _ h.symm⟩
theorem lvs_entry (ad : Nat → Nat) (av : List AV) {nL : Nat} (h : av.length ≤ nL) : lvs ad ((lg_sl (av.map (av_v ad)) ++ List.replicate (nL - (lg_sl (av.map (av_v ad))).length) Slot.unset).toArray) nL (av.map some ++ List.replicate (nL - av.length) none) := by
  have hsl : lg_sl (av.map (av_v ad)) = (av.map (av_v ad)).map Slot.val := by
    unfold lg_sl
    induction av with
    | nil => rfl
    | cons a l ih =>
      have := ih (by simp at h; omega)
      simp only [List.map_cons, List.flatMap_cons, this]
      rw [if_neg (by rw [av_cat]; decide)]
      rfl
  have hlen : (lg_sl (av.map (av_v ad))).length = av.length := by rw [hsl]; simp
  have he := lv_entry (av.map (av_v ad)) (n := nL) (by rw [hlen]; exact h)
  refine ⟨he.1, he.2.1, fun i v hi => ?_⟩
  rw [hsl]
  have hi2 : av[i]? = some v := by
    by_cases hl : i < av.length
    · rw [List.getElem?_append_left (by simpa using hl), List.getElem?_map] at hi
      cases h3 : av[i]? with
      | none => rw [h3] at hi; cases hi
      | some w => rw [h3] at hi; simpa using hi
    · rw [List.getElem?_append_right (by simpa using Nat.not_lt.mp hl)] at hi
      rw [List.getElem?_replicate] at hi
      split at hi <;> simp at hi
  have hl : i < av.length := (List.getElem?_eq_some_iff.mp hi2).1
  rw [List.getElem?_toArray, List.getElem?_append_left (by simpa using hl)]
  simp [hi2]
theorem MS.of {wl : WL} {y : MethodName} {cc : ByteArray} {nL : Nat} {ret : Option FieldType} {rm : Room} {ρ : Type} {em : ρ → Option AV} {K : Option (ρ × ST)} {av : List AV} {σ : ST} (hy : plainName y.cls = true) (hn : av.length ≤ nL) (h : AW wl y cc nL ret rm em K 0 (av.map some ++ List.replicate (nL - av.length) none) [] σ) : MS wl y cc nL ret rm em av σ K := by
  intro r σ' hK l D cI cZ cD ad sz
  refine Met.ofW (cc := cc) (maxL := nL) (ret := ret) hy rfl ?_
  intro p e s m args below meth c s₁ B hml hv
  obtain ⟨rfl, hsz, hP, hKK, hD0⟩ := hv
  subst hsz
  have hD := hD0.self (sz := s.heap.size)
  rw [lg_entry_eq]
  refine h r σ' hK p l e s m _ below meth c D cI cZ cD (va_A (wl cI cZ cD ad σ) s.heap.size) ⟨B.exec, B.bytes, B.returns, atoms_spec (ws := Cond.code y cc nL ret :: WT) B.pre, findClass_of_methodNamed B.named, hml, B.notSynchronized, hKK, fun q hq => Or.inr hq⟩ ad s.heap [] _ hP hD va_S.rf (lvs_entry ad av hn)
section AWC
variable {wl : WL} {y : MethodName} {cc : ByteArray} {nL : Nat} {ret : Option FieldType} {rm : Room} {ρ : Type} {em : ρ → Option AV} {pc : Nat} {L : List (Option AV)} {st : List AV} {σ : ST}
theorem pc_blind {wl : WL} {D : va_G} {cI cZ cD : ClassId} {ad : Nat → Nat} {σ : ST} {sz : Nat} {as : List Value} : FrameBlind (va_Pc as (fun U => U.heap.size = sz ∧ va_P D vwCl (wl cI cZ cD ad σ) U.heap ∧ va_K D vwCl (tys3 cI cZ cD) U ∧ va_D (fun _ => True) (wl cI cZ cD ad σ))) := fun a U g mk q => by
  obtain ⟨q0, q1, qP, qK, qD⟩ := q
  exact ⟨q0, q1, qP, va_K.moved (u := U) (U := U.calling g mk a) (Vm.Alike.refl U.vm) qK, qD⟩
theorem run_next {p : Program} {l : Launch} {e : Env} {s : State} {m : MethodId} {args : Array Value} {below : List Frame} {meth : Method} {c : Code} {H : Heap} {locs : List Loc} {ls : Array Slot} {Q : State → Prop} {D : va_G} {cI cZ cD : ClassId} {ad : Nat → Nat} {A : Nat → Prop} {a : Array Value} {o2 : Option AV} {σ2 : ST} {st0 : List Value} {rest : List Value}
    (hr : va_Run p l e rm s m args below meth c H locs 0 0 0 0 (F0 m pc ls st0) rest (QC wl o2 σ2 D cI cZ cD ad (va_A (wl cI cZ cD ad σ) H.size) a) (va_A (wl cI cZ cD ad σ) H.size))
    (hD : va_D A (wl cI cZ cD ad σ)) (hS : va_S A s.heap H locs) (hA : ∀ q, s.heap.size ≤ q → A q)
    (kk : ∀ (H1 : Heap) (locs1 : List Loc), va_P D vwCl (wl cI cZ cD ad σ2) H1 → va_D A (wl cI cZ cD ad σ2) → va_S A s.heap H1 locs1 → W p l e rm s m args below meth c H1 locs1 0 0 Q (F0 m (pc + 3) ls ((o2.map (av_v ad)).toList ++ rest))) : W p l e rm s m args below meth c H locs 0 0 Q (F0 m pc ls st0) := by
  have hin : ∀ q, va_A (wl cI cZ cD ad σ) H.size q → A q := by
    rintro q (⟨k, e, hk⟩ | hq)
    · exact hD.2 k _ hk
    · exact hA q (Nat.le_trans hS.1 hq)
  intro T hT X
  obtain ⟨v, st₀, t, T', Lc, h0, X', hL, e1, e2, ⟨hv, hP2, hK2, hD2, hz, hk⟩, stp⟩ := hr T hT X
  rw [h0] at hz hk
  have hv' : v = o2.map (av_v ad) := by cases hv; rfl
  subst hv'
  rw [← e1] at hP2 hz hk
  obtain ⟨t2, a1, b1⟩ := kk T'.heap (locs ++ Lc) hP2 (hD2.weaken (fun k q _ h => hin q.1 h))
    ⟨Nat.le_trans hS.1 hz, fun q h1 h2 => by rw [hk q (Nat.lt_of_lt_of_le h1 hS.1) (fun z => h2 (hin q z))]; exact hS.2.1 q h1 h2, fun q hq => by
      rcases List.mem_append.mp hq with h | h
      · exact hS.2.2 q h
      · exact hin _ (hL q h)⟩ T' rfl X'
  exact ⟨t2, stp t2 a1, b1⟩
theorem toL_map (ad : Nat → Nat) (o : Option AV) (st : List AV) : (o.map (av_v ad)).toList ++ st.map (av_v ad) = (o.toList ++ st).map (av_v ad) := by cases o <;> rfl
theorem aw_callV {ρ2 : Type} {em2 : ρ2 → Option AV} {y2 : MethodName} {cc2 : ByteArray} {nL2 : Nat} {ret2 : Option FieldType} {rm2 : Room} {K2 : Option (ρ2 × ST)} {k : ρ2 → ST → Option (ρ × ST)} {as : List AV} {b ci idx : Nat} {fs : List AV} {T : u_T} {N : Nat}
    (hM : MS wl y2 cc2 nL2 ret2 rm2 em2 (.inr (some b) :: as) σ K2) (hO : ObjAt wl σ b ci fs) (hc : vwCl[ci]? = some (y2.cls, T, N)) (hC2 : CallOK y.cls idx y2 cc2 nL2 ret2 as.length) (hR : RoomOK rm rm2 nL2) (hst : st.length ≤ 8) (hd : decode cc pc = .ok (.invokevirtual idx, 3)) {stk : List AV} (hstk : stk = as.reverse ++ .inr (some b) :: st)
    (kk : ∀ r2 σ2, AW wl y cc nL ret rm em (k r2 σ2) (pc + 3) L ((em2 r2).toList ++ st) σ2) : AW wl y cc nL ret rm em (K2.bind (fun q => k q.1 q.2)) pc L stk σ := by
  subst hstk
  intro r σ' hK p l e s m args below meth c D cI cZ cD A hC ad H locs ls hP hD hS hl
  cases hK2 : K2 with
  | none => rw [hK2] at hK; cases hK
  | some q =>
    obtain ⟨r2, σ2⟩ := q
    rw [hK2] at hK
    have hts : ∀ w ∈ (Cond.code y cc nL ret :: WT), w.before args s = true := hC.2.2.2.1
    have ht : ∀ w ∈ WT, w.before args s = true := fun w hw => hts w (List.mem_cons_of_mem _ hw)
    obtain ⟨c1, c2, c3, c4, c5, c6, c7, c8⟩ := hC2
    obtain ⟨R1, R2, R3, R4⟩ := hR
    have hKK := hC.2.2.2.2.2.2.2.1
    have cw : CallW rm s args y.cls y2.cls idx y2 cc2 nL2 ret2 (Cond.code y2 cc2 nL2 ret2 :: WT) rm2 0 0 as.length :=
      ⟨callB_of as.length hts (wt_good c5) rfl R1 R2 (ht _ c4) (ht _ c1) ⟨c6, c7, c8⟩ ⟨R3, R4⟩, ht _ c2, ht _ c3⟩
    have hrun := va_runV (l := l) (e := e) (below := below) (meth := meth) (locs := locs) (cells := 0) (slots := 0) (H := H) (b := ad b) (As := as.map (av_v ad)) (rest := st.map (av_v ad)) (g := F0 m pc ls ((as.reverse ++ .inr (some b) :: st).map (av_v ad)))
      ⟨hC.1, hC.2.1, hC.2.2.2.2.2.1, hC.2.2.2.2.1, hts⟩ (hM r2 σ2 hK2 l D cI cZ cD ad H.size) cw
      ⟨pc_blind, va_recv hKK hP hc (hO cI cZ cD ad), fun U hU hW => ⟨rfl, by rw [hU], by rw [hU]; exact hP, va_K.moved hW.alike hKK, hD.weaken (fun _ _ _ _ => trivial)⟩⟩
      rfl (by simp) hl.1 (by simp [av_v, va_rf]) (lv_room (by rw [av_sum]; exact hst)) hd ⟨Nat.zero_le _, Nat.zero_le _⟩
    refine run_next hrun hD hS hC.2.2.2.2.2.2.2.2 (fun H1 locs1 hP1 hD1 hS1 => ?_)
    rw [toL_map]
    exact kk r2 σ2 r σ' hK p l e s m args below meth c D cI cZ cD A hC ad H1 locs1 ls hP1 hD1 hS1 hl
theorem aw_callS {ρ2 : Type} {em2 : ρ2 → Option AV} {y2 : MethodName} {cc2 : ByteArray} {nL2 : Nat} {ret2 : Option FieldType} {rm2 : Room} {K2 : Option (ρ2 × ST)} {k : ρ2 → ST → Option (ρ × ST)} {as : List AV} {idx : Nat}
    (hM : MS wl y2 cc2 nL2 ret2 rm2 em2 as σ K2) (hC2 : CallSOK y.cls idx y2 cc2 nL2 ret2 as.length) (hR : RoomOK rm rm2 nL2) (hst : st.length ≤ 8) (hd : decode cc pc = .ok (.invokestatic idx, 3)) {stk : List AV} (hstk : stk = as.reverse ++ st)
    (kk : ∀ r2 σ2, AW wl y cc nL ret rm em (k r2 σ2) (pc + 3) L ((em2 r2).toList ++ st) σ2) : AW wl y cc nL ret rm em (K2.bind (fun q => k q.1 q.2)) pc L stk σ := by
  subst hstk
  intro r σ' hK p l e s m args below meth c D cI cZ cD A hC ad H locs ls hP hD hS hl
  cases hK2 : K2 with
  | none => rw [hK2] at hK; cases hK
  | some q =>
    obtain ⟨r2, σ2⟩ := q
    rw [hK2] at hK
    have hts : ∀ w ∈ (Cond.code y cc nL ret :: WT), w.before args s = true := hC.2.2.2.1
    have ht : ∀ w ∈ WT, w.before args s = true := fun w hw => hts w (List.mem_cons_of_mem _ hw)
    obtain ⟨c1, c2, c4, c5, c6, c7, c8⟩ := hC2
    obtain ⟨R1, R2, R3, R4⟩ := hR
    have hKK := hC.2.2.2.2.2.2.2.1
    have cw : CallB rm s args y.cls idx y2 cc2 nL2 ret2 (Cond.code y2 cc2 nL2 ret2 :: WT) rm2 0 0 as.length ∧ (Cond.static y2).before args s = true :=
      ⟨callB_of as.length hts (wt_good c5) rfl R1 R2 (ht _ c4) (ht _ c1) ⟨c6, c7, c8⟩ ⟨R3, R4⟩, ht _ c2⟩
    have hrun := va_runS (l := l) (e := e) (below := below) (meth := meth) (locs := locs) (cells := 0) (slots := 0) (H := H) (As := as.map (av_v ad)) (rest := st.map (av_v ad)) (g := F0 m pc ls ((as.reverse ++ st).map (av_v ad)))
      ⟨hC.1, hC.2.1, hC.2.2.2.2.2.1, hC.2.2.2.2.1, hts⟩ (hM r2 σ2 hK2 l D cI cZ cD ad H.size) cw
      ⟨pc_blind, fun U hU hW => ⟨rfl, by rw [hU], by rw [hU]; exact hP, va_K.moved hW.alike hKK, hD.weaken (fun _ _ _ _ => trivial)⟩⟩
      rfl (by simp) hl.1 (by simp) (lv_room (by rw [av_sum]; exact hst)) hd ⟨Nat.zero_le _, Nat.zero_le _⟩
    refine run_next hrun hD hS hC.2.2.2.2.2.2.2.2 (fun H1 locs1 hP1 hD1 hS1 => ?_)
    rw [toL_map]
    exact kk r2 σ2 r σ' hK p l e s m args below meth c D cI cZ cD A hC ad H1 locs1 ls hP1 hD1 hS1 hl
end AWC
-- loops
noncomputable def FU : Nat := Classical.choose (p := fun n : Nat => n = 10000000000000000000000000000000000000000) ⟨_, rfl⟩
theorem FU_val : FU = 10000000000000000000000000000000000000000 := Classical.choose_spec (p := fun n : Nat => n = 10000000000000000000000000000000000000000) ⟨_, rfl⟩
def loopN {α β : Type} (body : (α → Option β) → α → Option β) : Nat → α → Option β
  | 0, _ => none
  | n + 1, a => body (loopN body n) a
theorem loopN_succ {α β : Type} (body : (α → Option β) → α → Option β) (n : Nat) (a : α) : loopN body (n + 1) a = body (loopN body n) a := rfl
theorem aw_loop {wl : WL} {y : MethodName} {cc : ByteArray} {nL : Nat} {ret : Option FieldType} {rm : Room} {ρ : Type} {em : ρ → Option AV} {α : Type} {body : (α → Option (ρ × ST)) → α → Option (ρ × ST)} {pc : Nat} {Lf : α → List (Option AV)} {sf : α → ST}
    (h : ∀ k : α → Option (ρ × ST), (∀ a, AW wl y cc nL ret rm em (k a) pc (Lf a) [] (sf a)) → ∀ a, AW wl y cc nL ret rm em (body k a) pc (Lf a) [] (sf a)) : ∀ (n : Nat) (a : α), AW wl y cc nL ret rm em (loopN body n a) pc (Lf a) [] (sf a) := by
  intro n
  induction n with
  | zero => intro a; exact aw_none
  | succ n ih => intro a; exact h _ ih a
