-- constructors and drive(): a judgement over explicit lists of cells (own work)
def NW (U : State) : Prop := va_Nw (.methodLinkNest RX4 11 yX2_init RX4) U ∧ va_Nw (.methodLinkNest RX4 97 yX0_init RX4) U ∧ va_AO "RoadTrace$Drive" U
theorem NW.warm {s U : State} (hW : s.WarmedH U.vm) (h : NW s) : NW U := ⟨va_Nw.warmM hW h.1, va_Nw.warmM hW h.2.1, va_AO.moved hW.alike h.2.2⟩
theorem NW.same {s U : State} (hv : s.vm = U.vm) (h : NW s) : NW U := ⟨va_Nw.same rfl hv h.1, va_Nw.same rfl hv h.2.1, va_AO.moved (by rw [hv]; exact Vm.Alike.refl U.vm) h.2.2⟩
def QA (Post : Option Value → va_W → Prop) (D : va_G) (cI cZ cD : ClassId) (A : Nat → Prop) : Array Value → State → Outcome → State → Prop := fun _ st o t =>
  (∃ (v : Option Value) (ws : va_W), o = .returned v ∧ Post v ws ∧ va_P D vwCl ws t.heap ∧ va_D A ws) ∧ va_K D vwCl (tys3 cI cZ cD) t ∧ va_F A st t
def AC (y : MethodName) (cc : ByteArray) (nL : Nat) (ret : Option FieldType) (rm : Room) (mc ms : Nat) (D : va_G) (cI cZ cD : ClassId) (Post : Option Value → va_W → Prop) (k sl : Nat) (pc : Nat) (L : List (Nat × Value)) (st : List Value) (ws : va_W) : Prop :=
  ∀ (p : Program) (l : Launch) (e : Env) (s : State) (m : MethodId) (args : Array Value) (below : List Frame) (meth : Method) (c : Code) (A : Nat → Prop), Cx y cc nL ret p s m args meth c D cI cZ cD A → meth.name = y.name → NW s →
    ∀ (H : Heap) (locs : List Loc) (ls : Array Slot), va_P D vwCl ws H → va_D A ws → va_S A s.heap H locs → lv_has ls nL L →
      W p l e rm s m args below meth c H locs k sl (MQ below (QA Post D cI cZ cD A) args s mc ms A) (F0 m pc ls st)
def CM (y : MethodName) (cc : ByteArray) (nL : Nat) (ret : Option FieldType) (rm : Room) (mc ms : Nat) (av : List Value) (D : va_G) (cI cZ cD : ClassId) (ws0 : va_W) (Post : Option Value → va_W → Prop) : Prop :=
  ∀ (l : Launch) (sz : Nat), Met l y (Cond.code y cc nL ret :: WT) rm (va_Pc av (fun U => U.heap.size = sz ∧ va_P D vwCl ws0 U.heap ∧ va_K D vwCl (tys3 cI cZ cD) U ∧ va_D (fun _ => True) ws0 ∧ NW U)) (QA Post D cI cZ cD (va_A ws0 sz)) mc ms (va_A ws0 sz)
theorem CM.of {y : MethodName} {cc : ByteArray} {nL : Nat} {ret : Option FieldType} {rm : Room} {mc ms : Nat} {av : List Value} {D : va_G} {cI cZ cD : ClassId} {ws0 : va_W} {Post : Option Value → va_W → Prop} {L : List (Nat × Value)} (hy : plainName y.cls = true) (hl : (lg_sl av).length ≤ nL) (hL : lv_args 0 av = L) (h : AC y cc nL ret rm mc ms D cI cZ cD Post 0 0 0 L [] ws0) : CM y cc nL ret rm mc ms av D cI cZ cD ws0 Post := by
  subst hL
  intro l sz
  refine Met.ofW (cc := cc) (maxL := nL) (ret := ret) hy rfl ?_
  intro p e s m args below meth c s₁ B hml hv
  obtain ⟨rfl, hsz, hP, hKK, hD0, hN⟩ := hv
  subst hsz
  have hD := hD0.self (sz := s.heap.size)
  rw [lg_entry_eq]
  exact h p l e s m _ below meth c (va_A ws0 s.heap.size) ⟨B.exec, B.bytes, B.returns, atoms_spec (ws := Cond.code y cc nL ret :: WT) B.pre, findClass_of_methodNamed B.named, hml, B.notSynchronized, hKK, fun q hq => Or.inr hq⟩ (name_of_methodNamed B.named B.method).1 hN s.heap [] _ hP hD va_S.rf (lv_entry av hl)
/-- behind a call on the last cells of the list: the others are unchanged -/
theorem join_r {A0 : Nat → Prop} {D : va_G} {cl : List vw_C} {wr wc w1 : va_W} {H H1 : Heap} (hP : va_P D cl (wr ++ wc) H) (hD : va_D A0 (wr ++ wc)) (hk : ∀ q : Nat, q < H.size → ¬ va_A wc H.size q → H1[q]? = H[q]?) (hF : ∀ q, va_A wc H.size q → A0 q) (hP1 : va_P D cl w1 H1) (hD1 : va_D (va_A wc H.size) w1) : va_P D cl (wr ++ w1) H1 ∧ va_D A0 (wr ++ w1) := by
  have hl : ∀ (k : Nat) (q : Nat × va_E), wr[k]? = some q → (wr ++ wc)[k]? = some q := fun k q h => by
    rw [List.getElem?_append_left (List.getElem?_eq_some_iff.mp h).1]; exact h
  have apart : ∀ (k : Nat) (q : Nat × va_E), wr[k]? = some q → q.1 < H.size ∧ ¬ va_A wc H.size q.1 := by
    intro k q hq
    have hlt := (hP k q (hl k q hq)).lt
    refine ⟨hlt, fun h => ?_⟩
    rcases h with ⟨k2, e, h⟩ | h
    · have h2 : (wr ++ wc)[wr.length + k2]? = some (q.1, e) := by rw [List.getElem?_append_right (by omega)]; simpa using h
      have := hD.1 k (wr.length + k2) q (q.1, e) (hl k q hq) h2 rfl
      have := (List.getElem?_eq_some_iff.mp hq).1
      omega
    · omega
  refine ⟨va_P.app (fun k q hq => (hP k q (hl k q hq)).kept (hk q.1 (apart k q hq).1 (apart k q hq).2)) hP1, va_D.app ⟨fun i j p q hp hq he => hD.1 i j p q (hl i p hp) (hl j q hq) he, fun k q hq => hD.2 k q (hl k q hq)⟩ (hD1.weaken (fun k q _ h => hF q.1 h)) (fun i j x z hx hz hxz => ?_)⟩
  exact (apart i x hx).2 (by rw [hxz]; exact hD1.2 j z hz)
theorem swapP {D : va_G} {cl : List vw_C} {a b : va_W} {H : Heap} (h : va_P D cl (a ++ b) H) : va_P D cl (b ++ a) H := by
  intro k q hq
  rcases List.mem_append.mp (List.mem_of_getElem? hq) with hm | hm
  · obtain ⟨i, hi⟩ := List.getElem?_of_mem (List.mem_append_right a hm)
    exact h i q hi
  · obtain ⟨i, hi⟩ := List.getElem?_of_mem (List.mem_append_left b hm)
    exact h i q hi
theorem swapD {A : Nat → Prop} {a b : va_W} (h : va_D A (a ++ b)) : va_D A (b ++ a) := by
  have hla : ∀ (k : Nat) (q : Nat × va_E), a[k]? = some q → (a ++ b)[k]? = some q := fun k q h => by
    rw [List.getElem?_append_left (List.getElem?_eq_some_iff.mp h).1]; exact h
  have hlb : ∀ (k : Nat) (q : Nat × va_E), b[k]? = some q → (a ++ b)[a.length + k]? = some q := fun k q h => by
    rw [List.getElem?_append_right (by omega)]; simpa using h
  refine va_D.app ⟨fun i j p q hp hq he => ?_, fun k q hq => h.2 _ q (hlb k q hq)⟩ ⟨fun i j p q hp hq he => h.1 i j p q (hla i p hp) (hla j q hq) he, fun k q hq => h.2 _ q (hla k q hq)⟩ (fun i j p q hp hq he => ?_)
  · have := h.1 _ _ p q (hlb i p hp) (hlb j q hq) he
    omega
  · have := h.1 _ _ p q (hlb i p hp) (hla j q hq) he
    have := (List.getElem?_eq_some_iff.mp hq).1
    omega
section ACR
variable {y : MethodName} {cc : ByteArray} {nL : Nat} {ret : Option FieldType} {rm : Room} {mc ms : Nat} {D : va_G} {cI cZ cD : ClassId} {Post : Option Value → va_W → Prop} {k sl : Nat} {pc : Nat} {L : List (Nat × Value)} {st : List Value} {ws : va_W}
theorem ac_iconst {n : Int} {v : Int32} (hd : decode cc pc = .ok (.iconst n, 1)) (hv : Int32.ofInt n = v) (kk : AC y cc nL ret rm mc ms D cI cZ cD Post k sl (pc + 1) L (.int v :: st) ws) : AC y cc nL ret rm mc ms D cI cZ cD Post k sl pc L st ws := fun p l e s m args below meth c A hC hN hW H locs ls hP hD hS hl => lv_iconst hC.1 hC.2.1 hd hv (kk p l e s m args below meth c A hC hN hW H locs ls hP hD hS hl)
theorem ac_bipush {n : Int} {v : Int32} (hd : decode cc pc = .ok (.bipush n, 2)) (hv : (Int8.ofInt n).toInt32 = v) (kk : AC y cc nL ret rm mc ms D cI cZ cD Post k sl (pc + 2) L (.int v :: st) ws) : AC y cc nL ret rm mc ms D cI cZ cD Post k sl pc L st ws := fun p l e s m args below meth c A hC hN hW H locs ls hP hD hS hl => lv_bipush hC.1 hC.2.1 hd hv (kk p l e s m args below meth c A hC hN hW H locs ls hP hD hS hl)
theorem ac_sipush {n : Int} {v : Int32} (hd : decode cc pc = .ok (.sipush n, 3)) (hv : (Int16.ofInt n).toInt32 = v) (kk : AC y cc nL ret rm mc ms D cI cZ cD Post k sl (pc + 3) L (.int v :: st) ws) : AC y cc nL ret rm mc ms D cI cZ cD Post k sl pc L st ws := fun p l e s m args below meth c A hC hN hW H locs ls hP hD hS hl => lv_sipush hC.1 hC.2.1 hd hv (kk p l e s m args below meth c A hC hN hW H locs ls hP hD hS hl)
theorem ac_aload_n {j : Fin 4} {i x : Nat} (q : Nat) (hd : decode cc pc = .ok (.aload_n j, 1)) (hi : (j : Nat) = i) (hL : L[q]? = some (i, .ref x)) (kk : AC y cc nL ret rm mc ms D cI cZ cD Post k sl (pc + 1) L (.ref x :: st) ws) : AC y cc nL ret rm mc ms D cI cZ cD Post k sl pc L st ws := fun p l e s m args below meth c A hC hN hW H locs ls hP hD hS hl => lv_aload_n hC.1 hC.2.1 hd hi (lv_at hl q hL) (kk p l e s m args below meth c A hC hN hW H locs ls hP hD hS hl)
theorem ac_dup {x : Nat} (hd : decode cc pc = .ok (.dup, 1)) (kk : AC y cc nL ret rm mc ms D cI cZ cD Post k sl (pc + 1) L (.ref x :: .ref x :: st) ws) : AC y cc nL ret rm mc ms D cI cZ cD Post k sl pc L (.ref x :: st) ws := fun p l e s m args below meth c A hC hN hW H locs ls hP hD hS hl => lv_dup hC.1 hC.2.1 hd rfl (kk p l e s m args below meth c A hC hN hW H locs ls hP hD hS hl)
theorem ac_iadd {x z : Int32} (hd : decode cc pc = .ok (.iadd, 1)) (kk : AC y cc nL ret rm mc ms D cI cZ cD Post k sl (pc + 1) L (.int (x + z) :: st) ws) : AC y cc nL ret rm mc ms D cI cZ cD Post k sl pc L (.int z :: .int x :: st) ws := fun p l e s m args below meth c A hC hN hW H locs ls hP hD hS hl => lv_iadd hC.1 hC.2.1 hd (kk p l e s m args below meth c A hC hN hW H locs ls hP hD hS hl)
theorem ac_isub {x z : Int32} (hd : decode cc pc = .ok (.isub, 1)) (kk : AC y cc nL ret rm mc ms D cI cZ cD Post k sl (pc + 1) L (.int (x - z) :: st) ws) : AC y cc nL ret rm mc ms D cI cZ cD Post k sl pc L (.int z :: .int x :: st) ws := fun p l e s m args below meth c A hC hN hW H locs ls hP hD hS hl => lv_isub hC.1 hC.2.1 hd (kk p l e s m args below meth c A hC hN hW H locs ls hP hD hS hl)
theorem ac_lt {x z : Int32} {off : Int} {tgt : Nat} (hd : decode cc pc = .ok (.if_icmp .lt off, 3)) (ht : (pc : Int) + off = (tgt : Int)) (kt : x < z → AC y cc nL ret rm mc ms D cI cZ cD Post k sl tgt L st ws) (kf : ¬ x < z → AC y cc nL ret rm mc ms D cI cZ cD Post k sl (pc + 3) L st ws) : AC y cc nL ret rm mc ms D cI cZ cD Post k sl pc L (.int z :: .int x :: st) ws := fun p l e s m args below meth c A hC hN hW H locs ls hP hD hS hl => lv_icmp_lt hC.1 hC.2.1 hd ht (fun h => kt h p l e s m args below meth c A hC hN hW H locs ls hP hD hS hl) (fun h => kf h p l e s m args below meth c A hC hN hW H locs ls hP hD hS hl)
theorem ac_widen {k' sl' : Nat} (h1 : k ≤ k') (h2 : sl ≤ sl') (kk : AC y cc nL ret rm mc ms D cI cZ cD Post k' sl' pc L st ws) : AC y cc nL ret rm mc ms D cI cZ cD Post k sl pc L st ws := fun p l e s m args below meth c A hC hN hW H locs ls hP hD hS hl => W.widen h1 h2 (kk p l e s m args below meth c A hC hN hW H locs ls hP hD hS hl)
theorem ac_obj {idx : Nat} {x : Nat} (h1 : Cond.methodLink y.cls idx objectInit ∈ WT) (h2 : Cond.instanceMethod objectInit ∈ WT) (h3 : Cond.code objectInit ⟨#[0xb1]⟩ 1 none ∈ WT) (hf : 1 ≤ rm.frames) (hlo : (st.map fun v => v.category).sum + 12 ≤ rm.locals) (hd : decode cc pc = .ok (.invokespecial idx, 3)) (kk : AC y cc nL ret rm mc ms D cI cZ cD Post k sl (pc + 3) L st ws) : AC y cc nL ret rm mc ms D cI cZ cD Post k sl pc L (.ref x :: st) ws := by
  intro p l e s m args below meth c A hC hN hW H locs ls hP hD hS hl
  have hts : ∀ w ∈ WT, w.before args s = true := fun w hw => hC.2.2.2.1 w (List.mem_cons_of_mem _ hw)
  refine W.objInit hC.1 hC.2.1 hC.2.2.2.2.1 (hts _ h1) (hts _ h2) (hts _ h3) rfl (by rw [hC.2.2.2.2.2.1]; exact hl.1) rfl hd hf (by show 2 * 0 + _ + 12 ≤ _; omega) ?_
  exact kk p l e s m args below meth c A hC hN hW H locs ls hP hD hS hl
theorem cls_of {D : va_G} {cI cZ cD : ClassId} {s : State} (hK : va_K D vwCl (tys3 cI cZ cD) s) : s.vm.findClass ("[" ++ FieldType.int.toString) = some cI ∧ s.vm.findClass ("[" ++ FieldType.boolean.toString) = some cZ ∧ s.vm.findClass ("[" ++ (FieldType.object "RoadTrace$Drive").toString) = some cD := by
  refine ⟨(hK.2 0 _ rfl).2, (hK.2 1 _ rfl).2, ?_⟩
  obtain ⟨_, _, _, _, _, h⟩ := (hK.2 2 _ rfl).2
  exact h
theorem ac_newI {n : Int32} {N : Nat} (hw : Cond.arrayClass .int ∈ WT) (hn : ¬ n < 0) (hN : n.toNatClampNeg = N) (hb : N * 4 ≤ 536870912) (h1 : k + 1 ≤ rm.cells) (h2 : sl + N ≤ rm.slots) (hd : decode cc pc = .ok (.newarray .int, 2)) (kk : ∀ q, AC y cc nL ret rm mc ms D cI cZ cD Post (k + 1) (sl + N) (pc + 2) L (.ref q :: st) (ws ++ [(q, .inl (cI, N, .inl (fun _ => 0)))])) : AC y cc nL ret rm mc ms D cI cZ cD Post k sl pc L (.int n :: st) ws := by
  intro p l e s m args below meth c A hC hNm hW H locs ls hP hD hS hl
  have hts : ∀ w ∈ WT, w.before args s = true := fun w hw => hC.2.2.2.1 w (List.mem_cons_of_mem _ hw)
  have hK := hC.2.2.2.2.2.2.2.1
  refine va_newa (atype := .int) (ty := .int) (a0 := (N, .inl (fun _ => 0))) hC.1 hC.2.1 (hts _ hw) rfl hK hP hD hS hC.2.2.2.2.2.2.2.2 (fun cA => rfl) hn hN hb h1 h2 hd (fun q cA H1 hK1 hP1 hD1 hS1 => ?_)
  have e : cA = cI := by
    have h3 : s.vm.findClass ("[" ++ FieldType.int.toString) = some cA := (hK1.2 3 _ rfl).2
    exact Option.some.inj (h3.symm.trans (cls_of hK).1)
  subst e
  exact kk q p l e s m args below meth c A hC hNm hW H1 locs ls hP1 hD1 hS1 hl
theorem ac_newZ {n : Int32} {N : Nat} (hw : Cond.arrayClass .boolean ∈ WT) (hn : ¬ n < 0) (hN : n.toNatClampNeg = N) (hb : N * componentBytes .boolean ≤ 536870912) (h1 : k + 1 ≤ rm.cells) (h2 : sl + N ≤ rm.slots) (hd : decode cc pc = .ok (.newarray .boolean, 2)) (kk : ∀ q, AC y cc nL ret rm mc ms D cI cZ cD Post (k + 1) (sl + N) (pc + 2) L (.ref q :: st) (ws ++ [(q, .inl (cZ, N, .inl (fun _ => 0)))])) : AC y cc nL ret rm mc ms D cI cZ cD Post k sl pc L (.int n :: st) ws := by
  intro p l e s m args below meth c A hC hNm hW H locs ls hP hD hS hl
  have hts : ∀ w ∈ WT, w.before args s = true := fun w hw => hC.2.2.2.1 w (List.mem_cons_of_mem _ hw)
  have hK := hC.2.2.2.2.2.2.2.1
  refine va_newa (atype := .boolean) (ty := .boolean) (a0 := (N, .inl (fun _ => 0))) hC.1 hC.2.1 (hts _ hw) rfl hK hP hD hS hC.2.2.2.2.2.2.2.2 (fun cA => rfl) hn hN hb h1 h2 hd (fun q cA H1 hK1 hP1 hD1 hS1 => ?_)
  have e : cA = cZ := by
    have h3 : s.vm.findClass ("[" ++ FieldType.boolean.toString) = some cA := (hK1.2 3 _ rfl).2
    exact Option.some.inj (h3.symm.trans (cls_of hK).2.1)
  subst e
  exact kk q p l e s m args below meth c A hC hNm hW H1 locs ls hP1 hD1 hS1 hl
theorem ac_newD {n : Int32} {N idx : Nat} (hw : Cond.classLink y.cls idx "RoadTrace$Drive" ∈ WT) (hn : ¬ n < 0) (hN : n.toNatClampNeg = N) (hb : N * 4 ≤ 536870912) (h1 : k + 1 ≤ rm.cells) (h2 : sl + N ≤ rm.slots) (hd : decode cc pc = .ok (.anewarray idx, 3)) (kk : ∀ q, AC y cc nL ret rm mc ms D cI cZ cD Post (k + 1) (sl + N) (pc + 3) L (.ref q :: st) (ws ++ [(q, .inl (cD, N, .inr (.inr (.inr (.inr (fun _ => none))))))])) : AC y cc nL ret rm mc ms D cI cZ cD Post k sl pc L (.int n :: st) ws := by
  intro p l e s m args below meth c A hC hNm hW H locs ls hP hD hS hl
  have hts : ∀ w ∈ WT, w.before args s = true := fun w hw => hC.2.2.2.1 w (List.mem_cons_of_mem _ hw)
  have hK := hC.2.2.2.2.2.2.2.1
  refine va_newq hC.1 hC.2.1 hC.2.2.2.2.1 (hts _ hw) hW.2.2 hK hP hD hS hC.2.2.2.2.2.2.2.2 hn hN hb h1 h2 hd (fun q cA H1 hK1 hP1 hD1 hS1 => ?_)
  have e : cA = cD := by
    obtain ⟨_, _, _, _, _, h3⟩ := (hK1.2 3 _ rfl).2
    exact Option.some.inj (h3.symm.trans (cls_of hK).2.2)
  subst e
  exact kk q p l e s m args below meth c A hC hNm hW H1 locs ls hP1 hD1 hS1 hl
theorem ac_get {idx a q0 ci j : Nat} {fs : List Value} {v : Value} (hF : FieldOK y.cls idx ci j) (he : ws[q0]? = some (a, .inr (ci, fs))) (hv : fs[j]? = some v) (hd : decode cc pc = .ok (.getfield idx, 3)) (kk : AC y cc nL ret rm mc ms D cI cZ cD Post k sl (pc + 3) L (v :: st) ws) : AC y cc nL ret rm mc ms D cI cZ cD Post k sl pc L (.ref a :: st) ws := by
  intro p l e s m args below meth c A hC hNm hW H locs ls hP hD hS hl
  obtain ⟨C, T, N, h1, h2, h3, h4⟩ := hF
  have hts : ∀ w ∈ WT, w.before args s = true := fun w hw => hC.2.2.2.1 w (List.mem_cons_of_mem _ hw)
  exact va_get (D := D) (ci := ci) (v := v) (C := C) (T := T) (N := N) hC.1 hC.2.1 hts h3 hC.2.2.2.2.1 hC.2.2.2.2.2.2.2.1 hP q0 he h1 j h2 (hts _ h4) (fun _ h9 => h9) hv hd (kk p l e s m args below meth c A hC hNm hW H locs ls hP hD hS hl)
theorem ac_put {idx a ci j : Nat} {fs : List Value} {v : Value} {ty : FieldType} {ws' : va_W} (q0 : Nat) (hF : FieldW y.cls idx ci j ty) (he : ws[q0]? = some (a, .inr (ci, fs))) (hj : j < fs.length) (hn : narrow ty v = v) (hfit : fits ty v = true) (hs : ws.set q0 (a, .inr (ci, fs.set j v)) = ws') (hd : decode cc pc = .ok (.putfield idx, 3)) (kk : AC y cc nL ret rm mc ms D cI cZ cD Post k sl (pc + 3) L st ws') : AC y cc nL ret rm mc ms D cI cZ cD Post k sl pc L (v :: .ref a :: st) ws := by
  intro p l e s m args below meth c A hC hNm hW H locs ls hP hD hS hl
  obtain ⟨C, T, N, ty0, h1, h2, h3, h4, h5, h6, h7, h8⟩ := hF
  have hts : ∀ w ∈ WT, w.before args s = true := fun w hw => hC.2.2.2.1 w (List.mem_cons_of_mem _ hw)
  refine va_put (D := D) (ci := ci) (v := v) (ty := ty) (C := C) (T := T) (N := N) hC.1 hC.2.1 hts h3 ty0 h5 h6 hC.2.2.2.2.1 hC.2.2.2.2.2.2.2.1 hP hD hS q0 he h1 j h2 (hts _ h4) (fun _ h9 => h9) h7 h8 hn hfit hj hd (fun H1 locs1 hP1 hD1 hS1 => ?_)
  rw [hs] at hP1 hD1
  exact kk p l e s m args below meth c A hC hNm hW H1 locs1 ls hP1 hD1 hS1 hl
def FieldF (own : String) (idx ci j : Nat) (ty : FieldType) : Prop := ∃ (C : String) (T : u_T) (N : Nat) (ty0 : Nat → FieldType), vwCl[ci]? = some (C, T, N) ∧ j < N ∧ (∀ w ∈ u_ws C T N, w ∈ WT) ∧ Cond.fieldLink own idx (T j).1 (T j).2.1 (T j).2.2.1 ∈ WT ∧
  (∀ k, k < N → parseFieldDescriptor (T k).2.2.1 = some (ty0 k)) ∧ (∀ a, a < N → ∀ b, b < N → a ≠ b → (T a).2.1 ≠ (T b).2.1) ∧ (T j).2.2.2 = true ∧ (T j).1 = own ∧ parseFieldDescriptor (T j).2.2.1 = some ty
theorem ac_putF {idx a ci j : Nat} {fs : List Value} {v : Value} {ty : FieldType} {ws' : va_W} (q0 : Nat) (hy : y.name = "<init>") (hF : FieldF y.cls idx ci j ty) (he : ws[q0]? = some (a, .inr (ci, fs))) (hj : j < fs.length) (hn : narrow ty v = v) (hfit : fits ty v = true) (hs : ws.set q0 (a, .inr (ci, fs.set j v)) = ws') (hd : decode cc pc = .ok (.putfield idx, 3)) (kk : AC y cc nL ret rm mc ms D cI cZ cD Post k sl (pc + 3) L st ws') : AC y cc nL ret rm mc ms D cI cZ cD Post k sl pc L (v :: .ref a :: st) ws := by
  intro p l e s m args below meth c A hC hNm hW H locs ls hP hD hS hl
  obtain ⟨C, T, N, ty0, h1, h2, h3, h4, h5, h6, h7, h8, h9⟩ := hF
  have hts : ∀ w ∈ WT, w.before args s = true := fun w hw => hC.2.2.2.1 w (List.mem_cons_of_mem _ hw)
  refine va_putF (D := D) (ci := ci) (v := v) (ty := ty) (C := C) (T := T) (N := N) hC.1 hC.2.1 hts h3 ty0 h5 h6 hC.2.2.2.2.1 hC.2.2.2.2.2.2.2.1 hP hD hS q0 he h1 j h2 (hts _ h4) (fun _ h9 => h9) h7 (hNm.trans hy) h8 h9 hn hfit hj hd (fun H1 locs1 hP1 hD1 hS1 => ?_)
  rw [hs] at hP1 hD1
  exact kk p l e s m args below meth c A hC hNm hW H1 locs1 ls hP1 hD1 hS1 hl
theorem ac_ret_v (hr : ret = none) (hk : k = mc) (hsl : sl = ms) (hp : Post none ws) (hd : decode cc pc = .ok (.return_, 1)) : AC y cc nL ret rm mc ms D cI cZ cD Post k sl pc L [] ws := by
  subst hk; subst hsl
  intro p l e s m args below meth c A hC hNm hW H locs ls hP hD hS hl
  refine W.vret hC.1 hC.2.1 (hC.2.2.1.trans hr) (fun t ht hW => ?_) hS.2.2 hd hC.2.2.2.2.2.2.1
  exact ⟨⟨none, ws, rfl, hp, by rw [ht]; exact hP, hD⟩, va_K.moved hW.alike hC.2.2.2.2.2.2.2.1, hS.F ht⟩
theorem ac_ret_i {v : Int32} (hr : ret = some .int) (hk : k = mc) (hsl : sl = ms) (hp : Post (some (.int v)) ws) (hd : decode cc pc = .ok (.ireturn, 1)) : AC y cc nL ret rm mc ms D cI cZ cD Post k sl pc L [.int v] ws := by
  subst hk; subst hsl
  intro p l e s m args below meth c A hC hNm hW H locs ls hP hD hS hl
  refine W.iret hC.1 hC.2.1 (hC.2.2.1.trans hr) (fun t ht hW => ?_) hS.2.2 hd hC.2.2.2.2.2.2.1
  exact ⟨⟨some (.int v), ws, rfl, hp, by rw [ht]; exact hP, hD⟩, va_K.moved hW.alike hC.2.2.2.2.2.2.2.1, hS.F ht⟩
def NewOK (own : String) (idx : Nat) (ci : Nat) (fs : List Value) (n : Nat) : Prop := ∃ (C : String) (T : u_T) (ty : Nat → FieldType), vwCl[ci]? = some (C, T, n) ∧ (∀ w ∈ u_ws C T n, w ∈ WT) ∧ (∀ k, k < n → parseFieldDescriptor (T k).2.2.1 = some (ty k)) ∧ Cond.classLink own idx C ∈ WT ∧ Cond.instantiable C n ∈ WT ∧ Cond.initialized C ∈ WT ∧ (∀ j, j < n → defaultValue (ty j) = vp_V fs j)
theorem ac_new {idx ci n : Nat} {fs : List Value} (hN : NewOK y.cls idx ci fs n) (h1 : k + 1 ≤ rm.cells) (h2 : sl + n ≤ rm.slots) (hd : decode cc pc = .ok (.new idx, 3)) (kk : ∀ q, AC y cc nL ret rm mc ms D cI cZ cD Post (k + 1) (sl + n) (pc + 3) L (.ref q :: st) (ws ++ [(q, .inr (ci, fs))])) : AC y cc nL ret rm mc ms D cI cZ cD Post k sl pc L st ws := by
  intro p l e s m args below meth c A hC hNm hW H locs ls hP hD hS hl
  obtain ⟨C, T, ty, g1, g2, g3, g4, g5, g6, g7⟩ := hN
  have hts : ∀ w ∈ WT, w.before args s = true := fun w hw => hC.2.2.2.1 w (List.mem_cons_of_mem _ hw)
  refine va_new (ci := ci) (fs := fs) (C := C) (T := T) (N := n) hC.1 hC.2.1 hts g2 ty g3 hC.2.2.2.2.1 (hts _ g4) (hts _ g5) (hts _ g6) hC.2.2.2.2.2.2.2.1 hP hD hS hC.2.2.2.2.2.2.2.2 g1 g7 h1 h2 hd (fun q H1 hP1 hD1 hS1 => ?_)
  exact kk q p l e s m args below meth c A hC hNm hW H1 locs ls hP1 hD1 hS1 hl
theorem ac_aast {a q0 qk v n ci : Nat} {i : Int32} {f : Nat → Option Nat} {vs : List Value} {T : u_T} {N : Nat} {ws' : va_W} (ha : ws[q0]? = some (a, .inl (cD, n, .inr (.inr (.inr (.inr f)))))) (hv : ws[qk]? = some (v, .inr (ci, vs))) (hc : vwCl[ci]? = some ("RoadTrace$Drive", T, N)) (hin : vp_in i n) (hs : ws.set q0 (a, .inl (cD, n, .inr (.inr (.inr (.inr (va_up f i.toNatClampNeg (some v))))))) = ws') (hd : decode cc pc = .ok (.aastore, 1)) (kk : AC y cc nL ret rm mc ms D cI cZ cD Post k sl (pc + 1) L st ws') : AC y cc nL ret rm mc ms D cI cZ cD Post k sl pc L (.ref v :: .int i :: .ref a :: st) ws := by
  intro p l e s m args below meth c A hC hNm hW H locs ls hP hD hS hl
  refine va_astq (D := D) hC.1 hC.2.1 hC.2.2.2.2.2.2.2.1 hP hD hS q0 2 qk ci ha rfl hv hc hin hd (fun H1 locs1 hP1 hD1 hS1 => ?_)
  rw [hs] at hP1 hD1
  exact kk p l e s m args below meth c A hC hNm hW H1 locs1 ls hP1 hD1 hS1 hl
def InitOK (own : String) (y2 : MethodName) (cc2 : ByteArray) (nL2 : Nat) (n : Nat) : Prop := Cond.instanceMethod y2 ∈ WT ∧ Cond.initialized y2.cls ∈ WT ∧ Cond.code y2 cc2 nL2 none ∈ WT ∧ y2.cls ≠ "java/lang/invoke/MethodHandle" ∧ y2.cls ≠ "java/lang/invoke/VarHandle" ∧ (parseMethodDescriptor y2.desc).map (fun d => d.parameters.length) = some n ∧ y2.name = "<init>"
theorem cm_blind {D : va_G} {cI cZ cD : ClassId} {ws : va_W} {sz : Nat} {as : List Value} : FrameBlind (va_Pc as (fun U => U.heap.size = sz ∧ va_P D vwCl ws U.heap ∧ va_K D vwCl (tys3 cI cZ cD) U ∧ va_D (fun _ => True) ws ∧ NW U)) := fun a U g mk q => by
  obtain ⟨q0, q1, qP, qK, qD, qN⟩ := q
  exact ⟨q0, q1, qP, va_K.moved (u := U) (U := U.calling g mk a) (Vm.Alike.refl U.vm) qK, qD, NW.same rfl qN⟩
theorem acm_next {p : Program} {l : Launch} {e : Env} {s : State} {m : MethodId} {args : Array Value} {below : List Frame} {meth : Method} {c : Code} {H : Heap} {locs : List Loc} {ls : Array Slot} {Q : State → Prop} {A : Nat → Prop} {a : Array Value} {Post2 : Option Value → va_W → Prop} {st0 rest : List Value} {wr wc : va_W} {mc2 ms2 : Nat}
    (hr : va_Run p l e rm s m args below meth c H locs k sl mc2 ms2 (F0 m pc ls st0) rest (QA Post2 D cI cZ cD (va_A wc H.size) a) (va_A wc H.size))
    (hP : va_P D vwCl (wr ++ wc) H) (hD : va_D A (wr ++ wc)) (hS : va_S A s.heap H locs) (hA : ∀ q, s.heap.size ≤ q → A q)
    (kk : ∀ (v : Option Value) (w1 : va_W) (H1 : Heap) (locs1 : List Loc), Post2 v w1 → va_P D vwCl (wr ++ w1) H1 → va_D A (wr ++ w1) → va_S A s.heap H1 locs1 → W p l e rm s m args below meth c H1 locs1 (k + mc2) (sl + ms2) Q (F0 m (pc + 3) ls (v.toList ++ rest))) : W p l e rm s m args below meth c H locs k sl Q (F0 m pc ls st0) := by
  have hin : ∀ q, va_A wc H.size q → A q := by
    rintro q (⟨k, e, hk⟩ | hq)
    · exact hD.2 (wr.length + k) (q, e) (by rw [List.getElem?_append_right (by omega)]; simpa using hk)
    · exact hA q (Nat.le_trans hS.1 hq)
  intro T hT X
  obtain ⟨v, st₀, t, T', Lc, h0, X', hL, e1, e2, ⟨⟨v2, w1, hv, hpo, hP2, hD2⟩, hK2, hz, hk⟩, stp⟩ := hr T hT X
  rw [h0] at hz hk
  have hv' : v = v2 := by cases hv; rfl
  subst hv'
  rw [← e1] at hP2 hz hk
  obtain ⟨jP, jD⟩ := join_r hP hD hk hin hP2 hD2
  obtain ⟨t2, a1, b1⟩ := kk v w1 T'.heap (locs ++ Lc) hpo jP jD
    ⟨Nat.le_trans hS.1 hz, fun q h1 h2 => by rw [hk q (Nat.lt_of_lt_of_le h1 hS.1) (fun z => h2 (hin q z))]; exact hS.2.1 q h1 h2, fun q hq => by
      rcases List.mem_append.mp hq with h | h
      · exact hS.2.2 q h
      · exact hin _ (hL q h)⟩ T' rfl X'
  exact ⟨t2, stp t2 a1, b1⟩
theorem ac_init {y2 : MethodName} {cc2 : ByteArray} {nL2 mc2 ms2 idx b : Nat} {rm2 : Room} {as : List Value} {wr wc : va_W} {Post2 : Option Value → va_W → Prop} {stk : List Value} (hM : CM y2 cc2 nL2 none rm2 mc2 ms2 (.ref b :: as) D cI cZ cD wc Post2) (hL : Cond.methodLink y.cls idx y2 ∈ WT) (hI : InitOK y.cls y2 cc2 nL2 as.length) (hR : rm2.cells = mc2 ∧ rm2.slots = ms2 ∧ rm2.frames + 1 ≤ rm.frames ∧ 8 + (nL2 + 11) + rm2.locals ≤ rm.locals) (hf : k + mc2 ≤ rm.cells ∧ sl + ms2 ≤ rm.slots) (hst : (st.map fun v => v.category).sum ≤ 8) (hd : decode cc pc = .ok (.invokespecial idx, 3)) (hstk : stk = as.reverse ++ .ref b :: st) (hws : ws = wr ++ wc) (hp2 : ∀ v w, Post2 v w → v = none)
    (kk : ∀ w1, Post2 none w1 → AC y cc nL ret rm mc ms D cI cZ cD Post (k + mc2) (sl + ms2) (pc + 3) L st (wr ++ w1)) : AC y cc nL ret rm mc ms D cI cZ cD Post k sl pc L stk ws := by
  subst hstk; subst hws
  intro p l e s m args below meth c A hC hNm hW H locs ls hP hD hS hl
  have hts : ∀ w ∈ (Cond.code y cc nL ret :: WT), w.before args s = true := hC.2.2.2.1
  have ht : ∀ w ∈ WT, w.before args s = true := fun w hw => hts w (List.mem_cons_of_mem _ hw)
  obtain ⟨c2, c4, c5, c6, c7, c8, c9⟩ := hI
  have hKK := hC.2.2.2.2.2.2.2.1
  have hPc : va_P D vwCl wc H := fun i q hq => hP (wr.length + i) q (by rw [List.getElem?_append_right (by omega)]; simpa using hq)
  have hDc : va_D (fun _ => True) wc := ⟨fun i j x z hx hz hxz => by
    have := hD.1 (wr.length + i) (wr.length + j) x z (by rw [List.getElem?_append_right (by omega)]; simpa using hx) (by rw [List.getElem?_append_right (by omega)]; simpa using hz) hxz
    omega, fun _ _ _ => trivial⟩
  have hrun := va_runI (l := l) (e := e) (below := below) (meth := meth) (locs := locs) (cells := k) (slots := sl) (H := H) (b := b) (As := as) (rest := st) (g := F0 m pc ls (as.reverse ++ .ref b :: st)) (n := as.length) (bytes := cc2) (maxL := nL2)
    ⟨hC.1, hC.2.1, hC.2.2.2.2.2.1, hC.2.2.2.2.1, hts⟩ (hM l H.size) ⟨callB_of as.length hts (wt_good c5) rfl hR.1 hR.2.1 (ht _ c4) (ht _ hL) ⟨c6, c7, c8⟩ hR.2.2, c9, ht _ c2⟩
    ⟨cm_blind, fun U hU hW2 => ⟨rfl, by rw [hU], by rw [hU]; exact hPc, va_K.moved hW2.alike hKK, hDc, NW.warm hW2 hW⟩⟩
    rfl rfl hl.1 rfl (lv_room hst) hd hf
  refine acm_next hrun hP hD hS hC.2.2.2.2.2.2.2.2 (fun v w1 H1 locs1 hpo hP1 hD1 hS1 => ?_)
  have := hp2 v w1 hpo
  subst this
  exact kk w1 hpo p l e s m args below meth c A hC hNm hW H1 locs1 ls hP1 hD1 hS1 hl
theorem ac_initN {y2 : MethodName} {cc2 : ByteArray} {nL2 mc2 ms2 idx b : Nat} {rm2 : Room} {as : List Value} {wr wc : va_W} {Post2 : Option Value → va_W → Prop} {stk : List Value} (hM : CM y2 cc2 nL2 none rm2 mc2 ms2 (.ref b :: as) D cI cZ cD wc Post2) (hL : ∀ s, NW s → va_Nw (.methodLinkNest y.cls idx y2 RX4) s) (hI : InitOK y.cls y2 cc2 nL2 as.length) (hR : rm2.cells = mc2 ∧ rm2.slots = ms2 ∧ rm2.frames + 1 ≤ rm.frames ∧ 8 + (nL2 + 11) + rm2.locals ≤ rm.locals) (hf : k + mc2 ≤ rm.cells ∧ sl + ms2 ≤ rm.slots) (hst : (st.map fun v => v.category).sum ≤ 8) (hd : decode cc pc = .ok (.invokespecial idx, 3)) (hstk : stk = as.reverse ++ .ref b :: st) (hws : ws = wr ++ wc) (hp2 : ∀ v w, Post2 v w → v = none)
    (kk : ∀ w1, Post2 none w1 → AC y cc nL ret rm mc ms D cI cZ cD Post (k + mc2) (sl + ms2) (pc + 3) L st (wr ++ w1)) : AC y cc nL ret rm mc ms D cI cZ cD Post k sl pc L stk ws := by
  subst hstk; subst hws
  intro p l e s m args below meth c A hC hNm hW H locs ls hP hD hS hl
  have hts : ∀ w ∈ (Cond.code y cc nL ret :: WT), w.before args s = true := hC.2.2.2.1
  have ht : ∀ w ∈ WT, w.before args s = true := fun w hw => hts w (List.mem_cons_of_mem _ hw)
  obtain ⟨c2, c4, c5, c6, c7, c8, c9⟩ := hI
  have hKK := hC.2.2.2.2.2.2.2.1
  have hPc : va_P D vwCl wc H := fun i q hq => hP (wr.length + i) q (by rw [List.getElem?_append_right (by omega)]; simpa using hq)
  have hDc : va_D (fun _ => True) wc := ⟨fun i j x z hx hz hxz => by
    have := hD.1 (wr.length + i) (wr.length + j) x z (by rw [List.getElem?_append_right (by omega)]; simpa using hx) (by rw [List.getElem?_append_right (by omega)]; simpa using hz) hxz
    omega, fun _ _ _ => trivial⟩
  have hrun := va_runIN (l := l) (e := e) (below := below) (meth := meth) (locs := locs) (cells := k) (slots := sl) (H := H) (b := b) (As := as) (rest := st) (g := F0 m pc ls (as.reverse ++ .ref b :: st)) (n := as.length) (bytes := cc2) (maxL := nL2) (host := RX4)
    ⟨hC.1, hC.2.1, hC.2.2.2.2.2.1, hC.2.2.2.2.1, hts⟩ (hM l H.size) ⟨va_cnB as.length hts (wt_good c5) rfl hR.1 hR.2.1 (hL s hW) (ht _ c4) ⟨c6, c7, c8⟩ hR.2.2, c9, ht _ c2⟩
    ⟨cm_blind, fun U hU hW2 => ⟨rfl, by rw [hU], by rw [hU]; exact hPc, va_K.moved hW2.alike hKK, hDc, NW.warm hW2 hW⟩⟩
    rfl rfl hl.1 rfl (lv_room hst) hd hf
  refine acm_next hrun hP hD hS hC.2.2.2.2.2.2.2.2 (fun v w1 H1 locs1 hpo hP1 hD1 hS1 => ?_)
  have := hp2 v w1 hpo
  subst this
  exact kk w1 hpo p l e s m args below meth c A hC hNm hW H1 locs1 ls hP1 hD1 hS1 hl
end ACR
