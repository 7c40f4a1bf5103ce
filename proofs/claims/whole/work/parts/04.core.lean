-- the layer over the kit: abstract values, stores, worlds, and the judgement AW (own work)
abbrev AV : Type := Int32 ⊕ Option Nat
abbrev ST : Type := (Nat → Nat → Int32) × (Nat → Nat → Option Nat) × Nat
abbrev WL : Type := ClassId → ClassId → ClassId → (Nat → Nat) → ST → va_W
def av_v (ad : Nat → Nat) (v : AV) : Value := match v with
  | .inl x => .int x
  | .inr r => va_rf (r.map ad)
theorem av_cat (ad : Nat → Nat) (v : AV) : (av_v ad v).category = 1 := by
  rcases v with x | r
  · rfl
  · cases r <;> rfl
theorem av_sum (ad : Nat → Nat) (st : List AV) : ((st.map (av_v ad)).map fun v => v.category).sum = st.length := by
  induction st with
  | nil => rfl
  | cons a l ih => simp only [List.map_cons, List.sum_cons, av_cat, ih, List.length_cons]; omega
/-- the words every method stands on -/
def WT : List Cond := lw_tbl.filter goodWord
theorem wt_in {w : Cond} (i : Nat) (h : lw_tbl[i]? = some w) (hg : goodWord w = true) : w ∈ WT := List.mem_filter.mpr ⟨List.mem_of_getElem? h, hg⟩
theorem wt_good {c : Cond} {d : Cond} (h : d ∈ WT) : GoodIn (c :: WT) (d :: WT) := by
  intro w hw
  have hm : w ∈ WT := by
    rcases List.mem_cons.mp hw with rfl | hw
    · exact h
    · exact hw
  exact ⟨List.mem_cons_of_mem _ hm, good_of_word (List.mem_filter.mp hm).2⟩
abbrev tys3 (cI cZ cD : ClassId) : List (ClassId × FieldType) := [(cI, .int), (cZ, .boolean), (cD, .object "RoadTrace$Drive")]
/-- the locals -/
def lvs (ad : Nat → Nat) (ls : Array Slot) (nL : Nat) (L : List (Option AV)) : Prop := ls.size = nL ∧ lv_wf ls ∧ ∀ (i : Nat) (v : AV), L[i]? = some (some v) → ls[i]? = some (.val (av_v ad v))
def lva (ad : Nat → Nat) (L : List (Option AV)) : List (Nat × Value) := (List.range L.length).filterMap (fun i => (L[i]?).join.map (fun v => (i, av_v ad v)))
theorem lva_mem {ad : Nat → Nat} {L : List (Option AV)} {i : Nat} {w : Value} : (i, w) ∈ lva ad L ↔ ∃ v, L[i]? = some (some v) ∧ w = av_v ad v := by
  unfold lva
  rw [List.mem_filterMap]
  constructor
  · rintro ⟨j, hj, h⟩
    cases hL : L[j]? with
    | none => rw [hL] at h; simp at h
    | some o => cases o with
      | none => rw [hL] at h; simp at h
      | some v => rw [hL] at h; simp at h; exact ⟨v, by rw [← h.1]; exact hL, h.2.symm⟩
  · rintro ⟨v, hv, rfl⟩
    refine ⟨i, List.mem_range.mpr (List.getElem?_eq_some_iff.mp hv).1, ?_⟩
    rw [hv]; rfl
theorem lvs.has {ad : Nat → Nat} {ls : Array Slot} {nL : Nat} {L : List (Option AV)} (h : lvs ad ls nL L) : lv_has ls nL (lva ad L) := by
  refine ⟨h.1, h.2.1, ?_⟩
  rintro ⟨i, w⟩ hq
  obtain ⟨v, hv, rfl⟩ := lva_mem.mp hq
  exact h.2.2 i v hv
theorem lvs.set {ad : Nat → Nat} {ls : Array Slot} {nL : Nat} {L : List (Option AV)} {i : Nat} {v : AV} (h : lv_has ls nL ((i, av_v ad v) :: (lva ad L).filter (fun q => !(q.1 == i) && !(q.1 + 1 == i && q.2.category == 2)))) : lvs ad ls nL (L.set i (some v)) := by
  refine ⟨h.1, h.2.1, fun j w hj => ?_⟩
  by_cases hji : j = i
  · subst hji
    have hl : j < L.length := by
      have := (List.getElem?_eq_some_iff.mp hj).1
      simpa using this
    rw [List.getElem?_set_self hl] at hj
    have : v = w := by simpa using hj
    subst this
    exact h.2.2 (j, av_v ad v) List.mem_cons_self
  · rw [List.getElem?_set_ne (fun e => hji e.symm)] at hj
    refine h.2.2 (j, av_v ad w) (List.mem_cons_of_mem _ (List.mem_filter.mpr ⟨lva_mem.mpr ⟨w, hj, rfl⟩, ?_⟩))
    simp [hji, av_cat]
theorem lvs.weak {ad : Nat → Nat} {ls : Array Slot} {nL : Nat} {L L' : List (Option AV)} (h : lvs ad ls nL L) (hs : ∀ (i : Nat) (v : AV), L'[i]? = some (some v) → L[i]? = some (some v)) : lvs ad ls nL L' := ⟨h.1, h.2.1, fun i v hv => h.2.2 i v (hs i v hv)⟩
/-- what a run of a method stands on -/
def Cx (y : MethodName) (cc : ByteArray) (nL : Nat) (ret : Option FieldType) (p : Program) (s : State) (m : MethodId) (args : Array Value) (meth : Method) (c : Code) (D : va_G) (cI cZ cD : ClassId) (A : Nat → Prop) : Prop :=
  p.tables.exec = Jvm.exec ∧ c.code = cc ∧ meth.sig.returnType = ret ∧ (∀ w ∈ (Cond.code y cc nL ret :: WT), w.before args s = true) ∧ s.vm.findClass y.cls = some m.cls ∧ c.maxLocals = nL ∧ meth.locks = false ∧ va_K D vwCl (tys3 cI cZ cD) s ∧ (∀ q, s.heap.size ≤ q → A q)
def QC (wl : WL) (o' : Option AV) (σ' : ST) (D : va_G) (cI cZ cD : ClassId) (ad : Nat → Nat) (A : Nat → Prop) : Array Value → State → Outcome → State → Prop := fun _ st o t =>
  o = .returned (o'.map (av_v ad)) ∧ va_P D vwCl (wl cI cZ cD ad σ') t.heap ∧ va_K D vwCl (tys3 cI cZ cD) t ∧ va_D A (wl cI cZ cD ad σ') ∧ va_F A st t
def AW (wl : WL) (y : MethodName) (cc : ByteArray) (nL : Nat) (ret : Option FieldType) (rm : Room) {ρ : Type} (em : ρ → Option AV) (K : Option (ρ × ST)) (pc : Nat) (L : List (Option AV)) (st : List AV) (σ : ST) : Prop :=
  ∀ (r : ρ) (σ' : ST), K = some (r, σ') → ∀ (p : Program) (l : Launch) (e : Env) (s : State) (m : MethodId) (args : Array Value) (below : List Frame) (meth : Method) (c : Code) (D : va_G) (cI cZ cD : ClassId) (A : Nat → Prop), Cx y cc nL ret p s m args meth c D cI cZ cD A →
    ∀ (ad : Nat → Nat) (H : Heap) (locs : List Loc) (ls : Array Slot), va_P D vwCl (wl cI cZ cD ad σ) H → va_D A (wl cI cZ cD ad σ) → va_S A s.heap H locs → lvs ad ls nL L →
      W p l e rm s m args below meth c H locs 0 0 (MQ below (QC wl (em r) σ' D cI cZ cD ad A) args s 0 0 A) (F0 m pc ls (st.map (av_v ad)))
def MS (wl : WL) (y : MethodName) (cc : ByteArray) (nL : Nat) (ret : Option FieldType) (rm : Room) {ρ : Type} (em : ρ → Option AV) (av : List AV) (σ : ST) (K : Option (ρ × ST)) : Prop :=
  ∀ (r : ρ) (σ' : ST), K = some (r, σ') → ∀ (l : Launch) (D : va_G) (cI cZ cD : ClassId) (ad : Nat → Nat) (sz : Nat),
    Met l y (Cond.code y cc nL ret :: WT) rm (va_Pc (av.map (av_v ad)) (fun U => U.heap.size = sz ∧ va_P D vwCl (wl cI cZ cD ad σ) U.heap ∧ va_K D vwCl (tys3 cI cZ cD) U ∧ va_D (fun _ => True) (wl cI cZ cD ad σ)))
      (QC wl (em r) σ' D cI cZ cD ad (va_A (wl cI cZ cD ad σ) sz)) 0 0 (va_A (wl cI cZ cD ad σ) sz)
def ObjAt (wl : WL) (σ : ST) (k ci : Nat) (fs : List AV) : Prop := ∀ cI cZ cD ad, (wl cI cZ cD ad σ)[k]? = some (ad k, .inr (ci, fs.map (av_v ad)))
def IntAt (wl : WL) (σ : ST) (k n : Nat) (f : Nat → Int32) : Prop := ∀ cI cZ cD ad, (wl cI cZ cD ad σ)[k]? = some (ad k, .inl (cI, n, .inl f))
def BoolAt (wl : WL) (σ : ST) (k n : Nat) (f : Nat → Int32) : Prop := ∀ cI cZ cD ad, (wl cI cZ cD ad σ)[k]? = some (ad k, .inl (cZ, n, .inl f))
def RefAt (wl : WL) (σ : ST) (k n : Nat) (f : Nat → Option Nat) : Prop := ∀ cI cZ cD ad, (wl cI cZ cD ad σ)[k]? = some (ad k, .inl (cD, n, .inr (.inr (.inr (.inr (fun j => (f j).map ad))))))
/-- a row in range -/
def ib (i : Int32) (n : Nat) : Bool := decide (¬ (i < 0 ∨ n ≤ i.toNatClampNeg))
theorem ib_in {i : Int32} {n : Nat} (h : ib i n = true) : vp_in i n := by unfold ib at h; have h2 : ¬ (i < 0 ∨ n ≤ i.toNatClampNeg) := of_decide_eq_true h; exact h2
def FieldOK (own : String) (idx ci j : Nat) : Prop := ∃ (C : String) (T : u_T) (N : Nat), vwCl[ci]? = some (C, T, N) ∧ j < N ∧ (∀ w ∈ u_ws C T N, w ∈ WT) ∧ Cond.fieldLink own idx (T j).1 (T j).2.1 (T j).2.2.1 ∈ WT
def FieldW (own : String) (idx ci j : Nat) (ty : FieldType) : Prop := ∃ (C : String) (T : u_T) (N : Nat) (ty0 : Nat → FieldType), vwCl[ci]? = some (C, T, N) ∧ j < N ∧ (∀ w ∈ u_ws C T N, w ∈ WT) ∧ Cond.fieldLink own idx (T j).1 (T j).2.1 (T j).2.2.1 ∈ WT ∧
  (∀ k, k < N → parseFieldDescriptor (T k).2.2.1 = some (ty0 k)) ∧ (∀ a, a < N → ∀ b, b < N → a ≠ b → (T a).2.1 ≠ (T b).2.1) ∧ (T j).2.2.2 = false ∧ parseFieldDescriptor (T j).2.2.1 = some ty
def CallOK (own : String) (idx : Nat) (y : MethodName) (cc : ByteArray) (nL : Nat) (ret : Option FieldType) (n : Nat) : Prop :=
  Cond.methodLink own idx y ∈ WT ∧ Cond.instanceMethod y ∈ WT ∧ Cond.selects y.cls y y ∈ WT ∧ Cond.initialized y.cls ∈ WT ∧ Cond.code y cc nL ret ∈ WT ∧ y.cls ≠ "java/lang/invoke/MethodHandle" ∧ y.cls ≠ "java/lang/invoke/VarHandle" ∧ (parseMethodDescriptor y.desc).map (fun d => d.parameters.length) = some n
def CallSOK (own : String) (idx : Nat) (y : MethodName) (cc : ByteArray) (nL : Nat) (ret : Option FieldType) (n : Nat) : Prop :=
  Cond.methodLink own idx y ∈ WT ∧ Cond.static y ∈ WT ∧ Cond.initialized y.cls ∈ WT ∧ Cond.code y cc nL ret ∈ WT ∧ y.cls ≠ "java/lang/invoke/MethodHandle" ∧ y.cls ≠ "java/lang/invoke/VarHandle" ∧ (parseMethodDescriptor y.desc).map (fun d => d.parameters.length) = some n
def RoomOK (rm rm2 : Room) (nL2 : Nat) : Prop := rm2.cells = 0 ∧ rm2.slots = 0 ∧ rm2.frames + 1 ≤ rm.frames ∧ 8 + (nL2 + 11) + rm2.locals ≤ rm.locals
section AWR
variable {wl : WL} {y : MethodName} {cc : ByteArray} {nL : Nat} {ret : Option FieldType} {rm : Room} {ρ : Type} {em : ρ → Option AV} {K K1 K2 : Option (ρ × ST)} {pc : Nat} {L : List (Option AV)} {st : List AV} {σ : ST}
theorem aw_none : AW wl y cc nL ret rm em none pc L st σ := fun _ _ h => by cases h
theorem aw_weak {L' : List (Option AV)} (hs : ∀ (i : Nat) (v : AV), L'[i]? = some (some v) → L[i]? = some (some v)) (k : AW wl y cc nL ret rm em K pc L' st σ) : AW wl y cc nL ret rm em K pc L st σ := by
  intro r σ' hK p l e s m args below meth c D cI cZ cD A hC ad H locs ls hP hD hS hl
  exact k r σ' hK p l e s m args below meth c D cI cZ cD A hC ad H locs ls hP hD hS (hl.weak hs)
theorem aw_if {q : Prop} {d : Decidable q} (h1 : q → AW wl y cc nL ret rm em K1 pc L st σ) (h2 : ¬ q → AW wl y cc nL ret rm em K2 pc L st σ) : AW wl y cc nL ret rm em (@ite _ q d K1 K2) pc L st σ := by
  by_cases h : q
  · rw [if_pos h]; exact h1 h
  · rw [if_neg h]; exact h2 h
theorem aw_chk {q : Prop} {d : Decidable q} (h1 : q → AW wl y cc nL ret rm em K pc L st σ) : AW wl y cc nL ret rm em (@ite _ q d K none) pc L st σ := aw_if h1 (fun _ => aw_none)
theorem aw_iconst {n : Int} {v : Int32} (hd : decode cc pc = .ok (.iconst n, 1)) (hv : Int32.ofInt n = v) (k : AW wl y cc nL ret rm em K (pc + 1) L (.inl v :: st) σ) : AW wl y cc nL ret rm em K pc L st σ := by
  intro r σ' hK p l e s m args below meth c D cI cZ cD A hC ad H locs ls hP hD hS hl
  exact lv_iconst hC.1 hC.2.1 hd hv (k r σ' hK p l e s m args below meth c D cI cZ cD A hC ad H locs ls hP hD hS hl)
theorem aw_bipush {n : Int} {v : Int32} (hd : decode cc pc = .ok (.bipush n, 2)) (hv : (Int8.ofInt n).toInt32 = v) (k : AW wl y cc nL ret rm em K (pc + 2) L (.inl v :: st) σ) : AW wl y cc nL ret rm em K pc L st σ := by
  intro r σ' hK p l e s m args below meth c D cI cZ cD A hC ad H locs ls hP hD hS hl
  exact lv_bipush hC.1 hC.2.1 hd hv (k r σ' hK p l e s m args below meth c D cI cZ cD A hC ad H locs ls hP hD hS hl)
theorem aw_sipush {n : Int} {v : Int32} (hd : decode cc pc = .ok (.sipush n, 3)) (hv : (Int16.ofInt n).toInt32 = v) (k : AW wl y cc nL ret rm em K (pc + 3) L (.inl v :: st) σ) : AW wl y cc nL ret rm em K pc L st σ := by
  intro r σ' hK p l e s m args below meth c D cI cZ cD A hC ad H locs ls hP hD hS hl
  exact lv_sipush hC.1 hC.2.1 hd hv (k r σ' hK p l e s m args below meth c D cI cZ cD A hC ad H locs ls hP hD hS hl)
theorem aw_ldc {idx : Nat} {v : Int32} (hw : Cond.constant y.cls idx v ∈ WT) (hd : decode cc pc = .ok (.ldc idx, 2)) (k : AW wl y cc nL ret rm em K (pc + 2) L (.inl v :: st) σ) : AW wl y cc nL ret rm em K pc L st σ := by
  intro r σ' hK p l e s m args below meth c D cI cZ cD A hC ad H locs ls hP hD hS hl
  exact lv_ldc hC.1 hC.2.1 hC.2.2.2.2.1 (hC.2.2.2.1 _ (List.mem_cons_of_mem _ hw)) hd (k r σ' hK p l e s m args below meth c D cI cZ cD A hC ad H locs ls hP hD hS hl)
theorem aw_iload_n {kk : Fin 4} {i : Nat} {x : Int32} (hd : decode cc pc = .ok (.iload_n kk, 1)) (hi : (kk : Nat) = i) (hL : L[i]? = some (some (.inl x))) (k : AW wl y cc nL ret rm em K (pc + 1) L (.inl x :: st) σ) : AW wl y cc nL ret rm em K pc L st σ := by
  intro r σ' hK p l e s m args below meth c D cI cZ cD A hC ad H locs ls hP hD hS hl
  exact lv_iload_n hC.1 hC.2.1 hd hi (hl.2.2 i _ hL) (k r σ' hK p l e s m args below meth c D cI cZ cD A hC ad H locs ls hP hD hS hl)
theorem aw_iload {i : Nat} {x : Int32} (hd : decode cc pc = .ok (.iload i, 2)) (hL : L[i]? = some (some (.inl x))) (k : AW wl y cc nL ret rm em K (pc + 2) L (.inl x :: st) σ) : AW wl y cc nL ret rm em K pc L st σ := by
  intro r σ' hK p l e s m args below meth c D cI cZ cD A hC ad H locs ls hP hD hS hl
  exact lv_iload hC.1 hC.2.1 hd (hl.2.2 i _ hL) (k r σ' hK p l e s m args below meth c D cI cZ cD A hC ad H locs ls hP hD hS hl)
theorem aw_aload_n {kk : Fin 4} {i : Nat} {x : Option Nat} (hd : decode cc pc = .ok (.aload_n kk, 1)) (hi : (kk : Nat) = i) (hL : L[i]? = some (some (.inr x))) (k : AW wl y cc nL ret rm em K (pc + 1) L (.inr x :: st) σ) : AW wl y cc nL ret rm em K pc L st σ := by
  intro r σ' hK p l e s m args below meth c D cI cZ cD A hC ad H locs ls hP hD hS hl
  have k' := k r σ' hK p l e s m args below meth c D cI cZ cD A hC ad H locs ls hP hD hS hl
  have hL' := hl.2.2 i _ hL
  cases x with
  | none => exact lv_aload_nN hC.1 hC.2.1 hd hi hL' k'
  | some a => exact lv_aload_n hC.1 hC.2.1 hd hi hL' k'
theorem aw_aload {i : Nat} {x : Option Nat} (hd : decode cc pc = .ok (.aload i, 2)) (hL : L[i]? = some (some (.inr x))) (k : AW wl y cc nL ret rm em K (pc + 2) L (.inr x :: st) σ) : AW wl y cc nL ret rm em K pc L st σ := by
  intro r σ' hK p l e s m args below meth c D cI cZ cD A hC ad H locs ls hP hD hS hl
  have k' := k r σ' hK p l e s m args below meth c D cI cZ cD A hC ad H locs ls hP hD hS hl
  have hL' := hl.2.2 i _ hL
  cases x with
  | none => exact lv_aloadN hC.1 hC.2.1 hd hL' k'
  | some a => exact lv_aload hC.1 hC.2.1 hd hL' k'
theorem aw_istore_n {kk : Fin 4} {i : Nat} {x : Int32} (hd : decode cc pc = .ok (.istore_n kk, 1)) (hi : (kk : Nat) = i) (hn : i < nL) (k : AW wl y cc nL ret rm em K (pc + 1) (L.set i (some (.inl x))) st σ) : AW wl y cc nL ret rm em K pc L (.inl x :: st) σ := by
  intro r σ' hK p l e s m args below meth c D cI cZ cD A hC ad H locs ls hP hD hS hl
  exact lv_istore_n hC.1 hC.2.1 hd hi hl.has hn rfl (fun ls' h' => k r σ' hK p l e s m args below meth c D cI cZ cD A hC ad H locs ls' hP hD hS (lvs.set (v := .inl x) h'))
theorem aw_istore {i : Nat} {x : Int32} (hd : decode cc pc = .ok (.istore i, 2)) (hn : i < nL) (k : AW wl y cc nL ret rm em K (pc + 2) (L.set i (some (.inl x))) st σ) : AW wl y cc nL ret rm em K pc L (.inl x :: st) σ := by
  intro r σ' hK p l e s m args below meth c D cI cZ cD A hC ad H locs ls hP hD hS hl
  exact lv_istore hC.1 hC.2.1 hd hl.has hn rfl (fun ls' h' => k r σ' hK p l e s m args below meth c D cI cZ cD A hC ad H locs ls' hP hD hS (lvs.set (v := .inl x) h'))
theorem aw_astore_n {kk : Fin 4} {i : Nat} {x : Option Nat} (hd : decode cc pc = .ok (.astore_n kk, 1)) (hi : (kk : Nat) = i) (hn : i < nL) (k : AW wl y cc nL ret rm em K (pc + 1) (L.set i (some (.inr x))) st σ) : AW wl y cc nL ret rm em K pc L (.inr x :: st) σ := by
  intro r σ' hK p l e s m args below meth c D cI cZ cD A hC ad H locs ls hP hD hS hl
  cases x with
  | none => exact lv_astore_nN hC.1 hC.2.1 hd hi hl.has hn rfl (fun ls' h' => k r σ' hK p l e s m args below meth c D cI cZ cD A hC ad H locs ls' hP hD hS (lvs.set (v := .inr none) h'))
  | some a => exact lv_astore_n hC.1 hC.2.1 hd hi hl.has hn rfl (fun ls' h' => k r σ' hK p l e s m args below meth c D cI cZ cD A hC ad H locs ls' hP hD hS (lvs.set (v := .inr (some a)) h'))
theorem aw_astore {i : Nat} {x : Option Nat} (hd : decode cc pc = .ok (.astore i, 2)) (hn : i < nL) (k : AW wl y cc nL ret rm em K (pc + 2) (L.set i (some (.inr x))) st σ) : AW wl y cc nL ret rm em K pc L (.inr x :: st) σ := by
  intro r σ' hK p l e s m args below meth c D cI cZ cD A hC ad H locs ls hP hD hS hl
  cases x with
  | none => exact lv_astoreN hC.1 hC.2.1 hd hl.has hn rfl (fun ls' h' => k r σ' hK p l e s m args below meth c D cI cZ cD A hC ad H locs ls' hP hD hS (lvs.set (v := .inr none) h'))
  | some a => exact lv_astore hC.1 hC.2.1 hd hl.has hn rfl (fun ls' h' => k r σ' hK p l e s m args below meth c D cI cZ cD A hC ad H locs ls' hP hD hS (lvs.set (v := .inr (some a)) h'))
theorem aw_iinc {i : Nat} {n : Int} {x v : Int32} (hd : decode cc pc = .ok (.iinc i n, 3)) (hL : L[i]? = some (some (.inl x))) (hv : Int32.ofInt n = v) (hn : i < nL) (k : AW wl y cc nL ret rm em K (pc + 3) (L.set i (some (.inl (x + v)))) st σ) : AW wl y cc nL ret rm em K pc L st σ := by
  intro r σ' hK p l e s m args below meth c D cI cZ cD A hC ad H locs ls hP hD hS hl
  subst hv
  obtain ⟨q, hq⟩ := List.getElem?_of_mem (lva_mem.mpr ⟨_, hL, rfl⟩ : (i, av_v ad (.inl x)) ∈ lva ad L)
  exact lv_iinc hC.1 hC.2.1 hd hl.has hq rfl hn rfl (fun ls' h' => k r σ' hK p l e s m args below meth c D cI cZ cD A hC ad H locs ls' hP hD hS (lvs.set (v := .inl (x + Int32.ofInt n)) h'))
-- ==== core2 ====
theorem aw_iadd {x z : Int32} (hd : decode cc pc = .ok (.iadd, 1)) (k : AW wl y cc nL ret rm em K (pc + 1) L (.inl (x + z) :: st) σ) : AW wl y cc nL ret rm em K pc L (.inl z :: .inl x :: st) σ := by
  intro r σ' hK p l e s m args below meth c D cI cZ cD A hC ad H locs ls hP hD hS hl
  exact lv_iadd hC.1 hC.2.1 hd (k r σ' hK p l e s m args below meth c D cI cZ cD A hC ad H locs ls hP hD hS hl)
theorem aw_isub {x z : Int32} (hd : decode cc pc = .ok (.isub, 1)) (k : AW wl y cc nL ret rm em K (pc + 1) L (.inl (x - z) :: st) σ) : AW wl y cc nL ret rm em K pc L (.inl z :: .inl x :: st) σ := by
  intro r σ' hK p l e s m args below meth c D cI cZ cD A hC ad H locs ls hP hD hS hl
  exact lv_isub hC.1 hC.2.1 hd (k r σ' hK p l e s m args below meth c D cI cZ cD A hC ad H locs ls hP hD hS hl)
theorem aw_imul {x z : Int32} (hd : decode cc pc = .ok (.imul, 1)) (k : AW wl y cc nL ret rm em K (pc + 1) L (.inl (x * z) :: st) σ) : AW wl y cc nL ret rm em K pc L (.inl z :: .inl x :: st) σ := by
  intro r σ' hK p l e s m args below meth c D cI cZ cD A hC ad H locs ls hP hD hS hl
  exact lv_imul hC.1 hC.2.1 hd (k r σ' hK p l e s m args below meth c D cI cZ cD A hC ad H locs ls hP hD hS hl)
theorem aw_iand {x z : Int32} (hd : decode cc pc = .ok (.iand, 1)) (k : AW wl y cc nL ret rm em K (pc + 1) L (.inl (x &&& z) :: st) σ) : AW wl y cc nL ret rm em K pc L (.inl z :: .inl x :: st) σ := by
  intro r σ' hK p l e s m args below meth c D cI cZ cD A hC ad H locs ls hP hD hS hl
  exact lv_iand hC.1 hC.2.1 hd (k r σ' hK p l e s m args below meth c D cI cZ cD A hC ad H locs ls hP hD hS hl)
theorem aw_ior {x z : Int32} (hd : decode cc pc = .ok (.ior, 1)) (k : AW wl y cc nL ret rm em K (pc + 1) L (.inl (x ||| z) :: st) σ) : AW wl y cc nL ret rm em K pc L (.inl z :: .inl x :: st) σ := by
  intro r σ' hK p l e s m args below meth c D cI cZ cD A hC ad H locs ls hP hD hS hl
  exact lv_ior hC.1 hC.2.1 hd (k r σ' hK p l e s m args below meth c D cI cZ cD A hC ad H locs ls hP hD hS hl)
theorem aw_ixor {x z : Int32} (hd : decode cc pc = .ok (.ixor, 1)) (k : AW wl y cc nL ret rm em K (pc + 1) L (.inl (x ^^^ z) :: st) σ) : AW wl y cc nL ret rm em K pc L (.inl z :: .inl x :: st) σ := by
  intro r σ' hK p l e s m args below meth c D cI cZ cD A hC ad H locs ls hP hD hS hl
  exact lv_ixor hC.1 hC.2.1 hd (k r σ' hK p l e s m args below meth c D cI cZ cD A hC ad H locs ls hP hD hS hl)
theorem aw_ishl {x z : Int32} (hd : decode cc pc = .ok (.ishl, 1)) (k : AW wl y cc nL ret rm em K (pc + 1) L (.inl (x <<< (z &&& 31)) :: st) σ) : AW wl y cc nL ret rm em K pc L (.inl z :: .inl x :: st) σ := by
  intro r σ' hK p l e s m args below meth c D cI cZ cD A hC ad H locs ls hP hD hS hl
  exact lv_ishl hC.1 hC.2.1 hd (k r σ' hK p l e s m args below meth c D cI cZ cD A hC ad H locs ls hP hD hS hl)
theorem aw_ishr {x z : Int32} (hd : decode cc pc = .ok (.ishr, 1)) (k : AW wl y cc nL ret rm em K (pc + 1) L (.inl (x >>> (z &&& 31)) :: st) σ) : AW wl y cc nL ret rm em K pc L (.inl z :: .inl x :: st) σ := by
  intro r σ' hK p l e s m args below meth c D cI cZ cD A hC ad H locs ls hP hD hS hl
  exact lv_ishr hC.1 hC.2.1 hd (k r σ' hK p l e s m args below meth c D cI cZ cD A hC ad H locs ls hP hD hS hl)
theorem aw_ineg {x : Int32} (hd : decode cc pc = .ok (.ineg, 1)) (k : AW wl y cc nL ret rm em K (pc + 1) L (.inl (-x) :: st) σ) : AW wl y cc nL ret rm em K pc L (.inl x :: st) σ := by
  intro r σ' hK p l e s m args below meth c D cI cZ cD A hC ad H locs ls hP hD hS hl
  exact lv_ineg hC.1 hC.2.1 hd (k r σ' hK p l e s m args below meth c D cI cZ cD A hC ad H locs ls hP hD hS hl)
theorem aw_idiv {x z : Int32} (hd : decode cc pc = .ok (.idiv, 1)) (hz : ¬ z = 0) (k : AW wl y cc nL ret rm em K (pc + 1) L (.inl (x / z) :: st) σ) : AW wl y cc nL ret rm em K pc L (.inl z :: .inl x :: st) σ := by
  intro r σ' hK p l e s m args below meth c D cI cZ cD A hC ad H locs ls hP hD hS hl
  exact lv_idiv hC.1 hC.2.1 hd hz (k r σ' hK p l e s m args below meth c D cI cZ cD A hC ad H locs ls hP hD hS hl)
theorem aw_idivC {x z : Int32} {d : Decidable (z = 0)} (hd : decode cc pc = .ok (.idiv, 1)) (k : ¬ z = 0 → AW wl y cc nL ret rm em K (pc + 1) L (.inl (x / z) :: st) σ) : AW wl y cc nL ret rm em (@ite _ (z = 0) d none K) pc L (.inl z :: .inl x :: st) σ := aw_if (fun _ => aw_none) (fun h => aw_idiv hd h (k h))
theorem aw_irem {x z : Int32} (hd : decode cc pc = .ok (.irem, 1)) (hz : ¬ z = 0) (k : AW wl y cc nL ret rm em K (pc + 1) L (.inl (x - x / z * z) :: st) σ) : AW wl y cc nL ret rm em K pc L (.inl z :: .inl x :: st) σ := by
  intro r σ' hK p l e s m args below meth c D cI cZ cD A hC ad H locs ls hP hD hS hl
  exact lv_irem hC.1 hC.2.1 hd hz (k r σ' hK p l e s m args below meth c D cI cZ cD A hC ad H locs ls hP hD hS hl)
theorem aw_iremC {x z : Int32} {d : Decidable (z = 0)} (hd : decode cc pc = .ok (.irem, 1)) (k : ¬ z = 0 → AW wl y cc nL ret rm em K (pc + 1) L (.inl (x - x / z * z) :: st) σ) : AW wl y cc nL ret rm em (@ite _ (z = 0) d none K) pc L (.inl z :: .inl x :: st) σ := aw_if (fun _ => aw_none) (fun h => aw_irem hd h (k h))
theorem aw_if_eq {x : Int32} {d : Decidable (x = 0)} {off : Int} {tgt : Nat} (hd : decode cc pc = .ok (.ifCond .eq off, 3)) (ht : (pc : Int) + off = (tgt : Int)) (kt : x = 0 → AW wl y cc nL ret rm em K1 tgt L st σ) (kf : ¬ x = 0 → AW wl y cc nL ret rm em K2 (pc + 3) L st σ) : AW wl y cc nL ret rm em (@ite _ (x = 0) d K1 K2) pc L (.inl x :: st) σ := by
  intro r σ' hK p l e s m args below meth c D cI cZ cD A hC ad H locs ls hP hD hS hl
  exact lv_if_eq hC.1 hC.2.1 hd ht (fun h => kt h r σ' ((if_pos h).symm.trans hK) p l e s m args below meth c D cI cZ cD A hC ad H locs ls hP hD hS hl) (fun h => kf h r σ' ((if_neg h).symm.trans hK) p l e s m args below meth c D cI cZ cD A hC ad H locs ls hP hD hS hl)
theorem aw_icmp_eq {x z : Int32} {d : Decidable (x = z)} {off : Int} {tgt : Nat} (hd : decode cc pc = .ok (.if_icmp .eq off, 3)) (ht : (pc : Int) + off = (tgt : Int)) (kt : x = z → AW wl y cc nL ret rm em K1 tgt L st σ) (kf : ¬ x = z → AW wl y cc nL ret rm em K2 (pc + 3) L st σ) : AW wl y cc nL ret rm em (@ite _ (x = z) d K1 K2) pc L (.inl z :: .inl x :: st) σ := by
  intro r σ' hK p l e s m args below meth c D cI cZ cD A hC ad H locs ls hP hD hS hl
  exact lv_icmp_eq hC.1 hC.2.1 hd ht (fun h => kt h r σ' ((if_pos h).symm.trans hK) p l e s m args below meth c D cI cZ cD A hC ad H locs ls hP hD hS hl) (fun h => kf h r σ' ((if_neg h).symm.trans hK) p l e s m args below meth c D cI cZ cD A hC ad H locs ls hP hD hS hl)
theorem aw_if_ne {x : Int32} {d : Decidable (x = 0)} {off : Int} {tgt : Nat} (hd : decode cc pc = .ok (.ifCond .ne off, 3)) (ht : (pc : Int) + off = (tgt : Int)) (kf : x = 0 → AW wl y cc nL ret rm em K1 (pc + 3) L st σ) (kt : ¬ x = 0 → AW wl y cc nL ret rm em K2 tgt L st σ) : AW wl y cc nL ret rm em (@ite _ (x = 0) d K1 K2) pc L (.inl x :: st) σ := by
  intro r σ' hK p l e s m args below meth c D cI cZ cD A hC ad H locs ls hP hD hS hl
  exact lv_if_ne hC.1 hC.2.1 hd ht (fun h => kt h r σ' ((if_neg h).symm.trans hK) p l e s m args below meth c D cI cZ cD A hC ad H locs ls hP hD hS hl) (fun h => kf h r σ' ((if_pos h).symm.trans hK) p l e s m args below meth c D cI cZ cD A hC ad H locs ls hP hD hS hl)
theorem aw_icmp_ne {x z : Int32} {d : Decidable (x = z)} {off : Int} {tgt : Nat} (hd : decode cc pc = .ok (.if_icmp .ne off, 3)) (ht : (pc : Int) + off = (tgt : Int)) (kf : x = z → AW wl y cc nL ret rm em K1 (pc + 3) L st σ) (kt : ¬ x = z → AW wl y cc nL ret rm em K2 tgt L st σ) : AW wl y cc nL ret rm em (@ite _ (x = z) d K1 K2) pc L (.inl z :: .inl x :: st) σ := by
  intro r σ' hK p l e s m args below meth c D cI cZ cD A hC ad H locs ls hP hD hS hl
  exact lv_icmp_ne hC.1 hC.2.1 hd ht (fun h => kt h r σ' ((if_neg h).symm.trans hK) p l e s m args below meth c D cI cZ cD A hC ad H locs ls hP hD hS hl) (fun h => kf h r σ' ((if_pos h).symm.trans hK) p l e s m args below meth c D cI cZ cD A hC ad H locs ls hP hD hS hl)
theorem aw_if_lt {x : Int32} {d : Decidable (x < 0)} {off : Int} {tgt : Nat} (hd : decode cc pc = .ok (.ifCond .lt off, 3)) (ht : (pc : Int) + off = (tgt : Int)) (kt : x < 0 → AW wl y cc nL ret rm em K1 tgt L st σ) (kf : ¬ x < 0 → AW wl y cc nL ret rm em K2 (pc + 3) L st σ) : AW wl y cc nL ret rm em (@ite _ (x < 0) d K1 K2) pc L (.inl x :: st) σ := by
  intro r σ' hK p l e s m args below meth c D cI cZ cD A hC ad H locs ls hP hD hS hl
  exact lv_if_lt hC.1 hC.2.1 hd ht (fun h => kt h r σ' ((if_pos h).symm.trans hK) p l e s m args below meth c D cI cZ cD A hC ad H locs ls hP hD hS hl) (fun h => kf h r σ' ((if_neg h).symm.trans hK) p l e s m args below meth c D cI cZ cD A hC ad H locs ls hP hD hS hl)
theorem aw_icmp_lt {x z : Int32} {d : Decidable (x < z)} {off : Int} {tgt : Nat} (hd : decode cc pc = .ok (.if_icmp .lt off, 3)) (ht : (pc : Int) + off = (tgt : Int)) (kt : x < z → AW wl y cc nL ret rm em K1 tgt L st σ) (kf : ¬ x < z → AW wl y cc nL ret rm em K2 (pc + 3) L st σ) : AW wl y cc nL ret rm em (@ite _ (x < z) d K1 K2) pc L (.inl z :: .inl x :: st) σ := by
  intro r σ' hK p l e s m args below meth c D cI cZ cD A hC ad H locs ls hP hD hS hl
  exact lv_icmp_lt hC.1 hC.2.1 hd ht (fun h => kt h r σ' ((if_pos h).symm.trans hK) p l e s m args below meth c D cI cZ cD A hC ad H locs ls hP hD hS hl) (fun h => kf h r σ' ((if_neg h).symm.trans hK) p l e s m args below meth c D cI cZ cD A hC ad H locs ls hP hD hS hl)
theorem aw_if_ge {x : Int32} {d : Decidable (0 ≤ x)} {off : Int} {tgt : Nat} (hd : decode cc pc = .ok (.ifCond .ge off, 3)) (ht : (pc : Int) + off = (tgt : Int)) (kt : 0 ≤ x → AW wl y cc nL ret rm em K1 tgt L st σ) (kf : ¬ 0 ≤ x → AW wl y cc nL ret rm em K2 (pc + 3) L st σ) : AW wl y cc nL ret rm em (@ite _ (0 ≤ x) d K1 K2) pc L (.inl x :: st) σ := by
  intro r σ' hK p l e s m args below meth c D cI cZ cD A hC ad H locs ls hP hD hS hl
  exact lv_if_ge hC.1 hC.2.1 hd ht (fun h => kt h r σ' ((if_pos h).symm.trans hK) p l e s m args below meth c D cI cZ cD A hC ad H locs ls hP hD hS hl) (fun h => kf h r σ' ((if_neg h).symm.trans hK) p l e s m args below meth c D cI cZ cD A hC ad H locs ls hP hD hS hl)
theorem aw_icmp_ge {x z : Int32} {d : Decidable (z ≤ x)} {off : Int} {tgt : Nat} (hd : decode cc pc = .ok (.if_icmp .ge off, 3)) (ht : (pc : Int) + off = (tgt : Int)) (kt : z ≤ x → AW wl y cc nL ret rm em K1 tgt L st σ) (kf : ¬ z ≤ x → AW wl y cc nL ret rm em K2 (pc + 3) L st σ) : AW wl y cc nL ret rm em (@ite _ (z ≤ x) d K1 K2) pc L (.inl z :: .inl x :: st) σ := by
  intro r σ' hK p l e s m args below meth c D cI cZ cD A hC ad H locs ls hP hD hS hl
  exact lv_icmp_ge hC.1 hC.2.1 hd ht (fun h => kt h r σ' ((if_pos h).symm.trans hK) p l e s m args below meth c D cI cZ cD A hC ad H locs ls hP hD hS hl) (fun h => kf h r σ' ((if_neg h).symm.trans hK) p l e s m args below meth c D cI cZ cD A hC ad H locs ls hP hD hS hl)
theorem aw_if_gt {x : Int32} {d : Decidable (0 < x)} {off : Int} {tgt : Nat} (hd : decode cc pc = .ok (.ifCond .gt off, 3)) (ht : (pc : Int) + off = (tgt : Int)) (kt : 0 < x → AW wl y cc nL ret rm em K1 tgt L st σ) (kf : ¬ 0 < x → AW wl y cc nL ret rm em K2 (pc + 3) L st σ) : AW wl y cc nL ret rm em (@ite _ (0 < x) d K1 K2) pc L (.inl x :: st) σ := by
  intro r σ' hK p l e s m args below meth c D cI cZ cD A hC ad H locs ls hP hD hS hl
  exact lv_if_gt hC.1 hC.2.1 hd ht (fun h => kt h r σ' ((if_pos h).symm.trans hK) p l e s m args below meth c D cI cZ cD A hC ad H locs ls hP hD hS hl) (fun h => kf h r σ' ((if_neg h).symm.trans hK) p l e s m args below meth c D cI cZ cD A hC ad H locs ls hP hD hS hl)
theorem aw_icmp_gt {x z : Int32} {d : Decidable (z < x)} {off : Int} {tgt : Nat} (hd : decode cc pc = .ok (.if_icmp .gt off, 3)) (ht : (pc : Int) + off = (tgt : Int)) (kt : z < x → AW wl y cc nL ret rm em K1 tgt L st σ) (kf : ¬ z < x → AW wl y cc nL ret rm em K2 (pc + 3) L st σ) : AW wl y cc nL ret rm em (@ite _ (z < x) d K1 K2) pc L (.inl z :: .inl x :: st) σ := by
  intro r σ' hK p l e s m args below meth c D cI cZ cD A hC ad H locs ls hP hD hS hl
  exact lv_icmp_gt hC.1 hC.2.1 hd ht (fun h => kt h r σ' ((if_pos h).symm.trans hK) p l e s m args below meth c D cI cZ cD A hC ad H locs ls hP hD hS hl) (fun h => kf h r σ' ((if_neg h).symm.trans hK) p l e s m args below meth c D cI cZ cD A hC ad H locs ls hP hD hS hl)
theorem aw_if_le {x : Int32} {d : Decidable (x ≤ 0)} {off : Int} {tgt : Nat} (hd : decode cc pc = .ok (.ifCond .le off, 3)) (ht : (pc : Int) + off = (tgt : Int)) (kt : x ≤ 0 → AW wl y cc nL ret rm em K1 tgt L st σ) (kf : ¬ x ≤ 0 → AW wl y cc nL ret rm em K2 (pc + 3) L st σ) : AW wl y cc nL ret rm em (@ite _ (x ≤ 0) d K1 K2) pc L (.inl x :: st) σ := by
  intro r σ' hK p l e s m args below meth c D cI cZ cD A hC ad H locs ls hP hD hS hl
  exact lv_if_le hC.1 hC.2.1 hd ht (fun h => kt h r σ' ((if_pos h).symm.trans hK) p l e s m args below meth c D cI cZ cD A hC ad H locs ls hP hD hS hl) (fun h => kf h r σ' ((if_neg h).symm.trans hK) p l e s m args below meth c D cI cZ cD A hC ad H locs ls hP hD hS hl)
theorem aw_icmp_le {x z : Int32} {d : Decidable (x ≤ z)} {off : Int} {tgt : Nat} (hd : decode cc pc = .ok (.if_icmp .le off, 3)) (ht : (pc : Int) + off = (tgt : Int)) (kt : x ≤ z → AW wl y cc nL ret rm em K1 tgt L st σ) (kf : ¬ x ≤ z → AW wl y cc nL ret rm em K2 (pc + 3) L st σ) : AW wl y cc nL ret rm em (@ite _ (x ≤ z) d K1 K2) pc L (.inl z :: .inl x :: st) σ := by
  intro r σ' hK p l e s m args below meth c D cI cZ cD A hC ad H locs ls hP hD hS hl
  exact lv_icmp_le hC.1 hC.2.1 hd ht (fun h => kt h r σ' ((if_pos h).symm.trans hK) p l e s m args below meth c D cI cZ cD A hC ad H locs ls hP hD hS hl) (fun h => kf h r σ' ((if_neg h).symm.trans hK) p l e s m args below meth c D cI cZ cD A hC ad H locs ls hP hD hS hl)
theorem aw_goto {off : Int} {tgt : Nat} (hd : decode cc pc = .ok (.goto off, 3)) (ht : (pc : Int) + off = (tgt : Int)) (k : AW wl y cc nL ret rm em K tgt L st σ) : AW wl y cc nL ret rm em K pc L st σ := by
  intro r σ' hK p l e s m args below meth c D cI cZ cD A hC ad H locs ls hP hD hS hl
  exact lv_goto hC.1 hC.2.1 hd ht (k r σ' hK p l e s m args below meth c D cI cZ cD A hC ad H locs ls hP hD hS hl)
theorem aw_dup {v : AV} (hd : decode cc pc = .ok (.dup, 1)) (k : AW wl y cc nL ret rm em K (pc + 1) L (v :: v :: st) σ) : AW wl y cc nL ret rm em K pc L (v :: st) σ := by
  intro r σ' hK p l e s m args below meth c D cI cZ cD A hC ad H locs ls hP hD hS hl
  exact lv_dup hC.1 hC.2.1 hd (av_cat ad v) (k r σ' hK p l e s m args below meth c D cI cZ cD A hC ad H locs ls hP hD hS hl)
theorem aw_dup2 {v w : AV} (hd : decode cc pc = .ok (.dup2, 1)) (k : AW wl y cc nL ret rm em K (pc + 1) L (v :: w :: v :: w :: st) σ) : AW wl y cc nL ret rm em K pc L (v :: w :: st) σ := by
  intro r σ' hK p l e s m args below meth c D cI cZ cD A hC ad H locs ls hP hD hS hl
  exact lv_dup2_11 hC.1 hC.2.1 hd (av_cat ad v) (av_cat ad w) (k r σ' hK p l e s m args below meth c D cI cZ cD A hC ad H locs ls hP hD hS hl)
theorem aw_pop {v : AV} (hd : decode cc pc = .ok (.pop, 1)) (k : AW wl y cc nL ret rm em K (pc + 1) L st σ) : AW wl y cc nL ret rm em K pc L (v :: st) σ := by
  intro r σ' hK p l e s m args below meth c D cI cZ cD A hC ad H locs ls hP hD hS hl
  exact lv_pop hC.1 hC.2.1 hd (av_cat ad v) (k r σ' hK p l e s m args below meth c D cI cZ cD A hC ad H locs ls hP hD hS hl)
theorem aw_ifnull {x : Option Nat} {d : Decidable (x = none)} {off : Int} {tgt : Nat} (hd : decode cc pc = .ok (.ifnull off, 3)) (ht : (pc : Int) + off = (tgt : Int)) (kt : x = none → AW wl y cc nL ret rm em K1 tgt L st σ) (kf : ¬ x = none → AW wl y cc nL ret rm em K2 (pc + 3) L st σ) : AW wl y cc nL ret rm em (@ite _ (x = none) d K1 K2) pc L (.inr x :: st) σ := by
  intro r σ' hK p l e s m args below meth c D cI cZ cD A hC ad H locs ls hP hD hS hl
  cases x with
  | none => exact lv_ifnullN hC.1 hC.2.1 hd ht (kt rfl r σ' ((if_pos rfl).symm.trans hK) p l e s m args below meth c D cI cZ cD A hC ad H locs ls hP hD hS hl)
  | some a => exact lv_ifnull hC.1 hC.2.1 hd (kf (by simp) r σ' ((if_neg (by simp)).symm.trans hK) p l e s m args below meth c D cI cZ cD A hC ad H locs ls hP hD hS hl)
theorem aw_ifnonnull {x : Option Nat} {d : Decidable (x = none)} {off : Int} {tgt : Nat} (hd : decode cc pc = .ok (.ifnonnull off, 3)) (ht : (pc : Int) + off = (tgt : Int)) (kf : x = none → AW wl y cc nL ret rm em K1 (pc + 3) L st σ) (kt : ¬ x = none → AW wl y cc nL ret rm em K2 tgt L st σ) : AW wl y cc nL ret rm em (@ite _ (x = none) d K1 K2) pc L (.inr x :: st) σ := by
  intro r σ' hK p l e s m args below meth c D cI cZ cD A hC ad H locs ls hP hD hS hl
  cases x with
  | none => exact lv_ifnonnullN hC.1 hC.2.1 hd (kf rfl r σ' ((if_pos rfl).symm.trans hK) p l e s m args below meth c D cI cZ cD A hC ad H locs ls hP hD hS hl)
  | some a => exact lv_ifnonnull hC.1 hC.2.1 hd ht (kt (by simp) r σ' ((if_neg (by simp)).symm.trans hK) p l e s m args below meth c D cI cZ cD A hC ad H locs ls hP hD hS hl)
theorem aw_ret_i {v : Int32} {rr : ρ} (hem : em rr = some (.inl v)) {ty : FieldType} (hr : ret = some ty) (hn : narrow ty (.int v) = .int v) (hd : decode cc pc = .ok (.ireturn, 1)) : AW wl y cc nL ret rm em (some (rr, σ)) pc L [.inl v] σ := by
  intro r σ' hK p l e s m args below meth c D cI cZ cD A hC ad H locs ls hP hD hS hl
  cases hK
  refine W.zret hC.1 hC.2.1 (hC.2.2.1.trans hr) hn (fun t ht hW => ?_) hS.2.2 hd hC.2.2.2.2.2.2.1
  exact ⟨by rw [hem]; rfl, by rw [ht]; exact hP, va_K.moved hW.alike hC.2.2.2.2.2.2.2.1, hD, hS.F ht⟩
theorem aw_ret_v {rr : ρ} (hem : em rr = none) (hr : ret = none) (hd : decode cc pc = .ok (.return_, 1)) : AW wl y cc nL ret rm em (some (rr, σ)) pc L [] σ := by
  intro r σ' hK p l e s m args below meth c D cI cZ cD A hC ad H locs ls hP hD hS hl
  cases hK
  refine W.vret hC.1 hC.2.1 (hC.2.2.1.trans hr) (fun t ht hW => ?_) hS.2.2 hd hC.2.2.2.2.2.2.1
  exact ⟨by rw [hem]; rfl, by rw [ht]; exact hP, va_K.moved hW.alike hC.2.2.2.2.2.2.2.1, hD, hS.F ht⟩
theorem aw_ret_a {v : Option Nat} {rr : ρ} (hem : em rr = some (.inr v)) {C : String} (hr : ret = some (.object C)) (hd : decode cc pc = .ok (.areturn, 1)) : AW wl y cc nL ret rm em (some (rr, σ)) pc L [.inr v] σ := by
  intro r σ' hK p l e s m args below meth c D cI cZ cD A hC ad H locs ls hP hD hS hl
  cases hK
  refine W.aret (v := va_rf (v.map ad)) hC.1 hC.2.1 (hC.2.2.1.trans hr) (Or.inl ⟨C, rfl⟩) (va_rf_or _) (fun t ht hW => ?_) hS.2.2 hd hC.2.2.2.2.2.2.1
  exact ⟨by rw [hem]; rfl, by rw [ht]; exact hP, va_K.moved hW.alike hC.2.2.2.2.2.2.2.1, hD, hS.F ht⟩
theorem aw_get {idx k ci j : Nat} {fs : List AV} {v : AV} (hF : FieldOK y.cls idx ci j) (hO : ObjAt wl σ k ci fs) (hv : fs[j]? = some v) (hd : decode cc pc = .ok (.getfield idx, 3)) (kk : AW wl y cc nL ret rm em K (pc + 3) L (v :: st) σ) : AW wl y cc nL ret rm em K pc L (.inr (some k) :: st) σ := by
  intro r σ' hK p l e s m args below meth c D cI cZ cD A hC ad H locs ls hP hD hS hl
  obtain ⟨C, T, N, h1, h2, h3, h4⟩ := hF
  have hts : ∀ w ∈ WT, w.before args s = true := fun w hw => hC.2.2.2.1 w (List.mem_cons_of_mem _ hw)
  exact va_get (D := D) (ci := ci) (v := av_v ad v) (C := C) (T := T) (N := N) hC.1 hC.2.1 hts h3 hC.2.2.2.2.1 hC.2.2.2.2.2.2.2.1 hP k (hO cI cZ cD ad) h1 j h2 (hts _ h4) (fun _ h9 => h9) (by rw [List.getElem?_map, hv]; rfl) hd (kk r σ' hK p l e s m args below meth c D cI cZ cD A hC ad H locs ls hP hD hS hl)
theorem aw_put {idx k ci j : Nat} {fs : List AV} {v : AV} {ty : FieldType} {σ2 : ST} (hF : FieldW y.cls idx ci j ty) (hO : ObjAt wl σ k ci fs) (hj : j < fs.length) (hn : ∀ ad, narrow ty (av_v ad v) = av_v ad v) (hfit : ∀ ad, fits ty (av_v ad v) = true) (hs : ∀ cI cZ cD ad, (wl cI cZ cD ad σ).set k (ad k, .inr (ci, (fs.set j v).map (av_v ad))) = wl cI cZ cD ad σ2) (hd : decode cc pc = .ok (.putfield idx, 3)) (kk : AW wl y cc nL ret rm em K (pc + 3) L st σ2) : AW wl y cc nL ret rm em K pc L (v :: .inr (some k) :: st) σ := by
  intro r σ' hK p l e s m args below meth c D cI cZ cD A hC ad H locs ls hP hD hS hl
  obtain ⟨C, T, N, ty0, h1, h2, h3, h4, h5, h6, h7, h8⟩ := hF
  have hts : ∀ w ∈ WT, w.before args s = true := fun w hw => hC.2.2.2.1 w (List.mem_cons_of_mem _ hw)
  refine va_put (D := D) (ci := ci) (v := av_v ad v) (ty := ty) (C := C) (T := T) (N := N) hC.1 hC.2.1 hts h3 ty0 h5 h6 hC.2.2.2.2.1 hC.2.2.2.2.2.2.2.1 hP hD hS k (hO cI cZ cD ad) h1 j h2 (hts _ h4) (fun _ h9 => h9) h7 h8 (hn ad) (hfit ad) (by rw [List.length_map]; exact hj) hd (fun H1 locs1 hP1 hD1 hS1 => ?_)
  rw [← List.map_set, hs] at hP1 hD1
  exact kk r σ' hK p l e s m args below meth c D cI cZ cD A hC ad H1 locs1 ls hP1 hD1 hS1 hl
theorem aw_iald {k n : Nat} {f : Nat → Int32} {i : Int32} {d : Decidable (ib i n = true)} (hI : IntAt wl σ k n f) (hd : decode cc pc = .ok (.iaload, 1)) (kk : ib i n = true → AW wl y cc nL ret rm em K (pc + 1) L (.inl (f i.toNatClampNeg) :: st) σ) : AW wl y cc nL ret rm em (@ite _ (ib i n = true) d K none) pc L (.inl i :: .inr (some k) :: st) σ := by
  refine aw_chk (fun h => ?_)
  intro r σ' hK p l e s m args below meth c D cI cZ cD A hC ad H locs ls hP hD hS hl
  exact va_iald (D := D) hC.1 hC.2.1 hC.2.2.2.2.2.2.2.1 hP k 0 (hI cI cZ cD ad) rfl (ib_in h) hd (kk h r σ' hK p l e s m args below meth c D cI cZ cD A hC ad H locs ls hP hD hS hl)
theorem aw_bald {k n : Nat} {f : Nat → Int32} {i : Int32} {d : Decidable (ib i n = true)} (hI : BoolAt wl σ k n f) (hd : decode cc pc = .ok (.baload, 1)) (kk : ib i n = true → AW wl y cc nL ret rm em K (pc + 1) L (.inl (f i.toNatClampNeg) :: st) σ) : AW wl y cc nL ret rm em (@ite _ (ib i n = true) d K none) pc L (.inl i :: .inr (some k) :: st) σ := by
  refine aw_chk (fun h => ?_)
  intro r σ' hK p l e s m args below meth c D cI cZ cD A hC ad H locs ls hP hD hS hl
  exact va_zald (D := D) hC.1 hC.2.1 hC.2.2.2.2.2.2.2.1 hP k 1 (hI cI cZ cD ad) rfl (ib_in h) hd (kk h r σ' hK p l e s m args below meth c D cI cZ cD A hC ad H locs ls hP hD hS hl)
theorem aw_aald {k n : Nat} {f : Nat → Option Nat} {i : Int32} {d : Decidable (ib i n = true)} (hI : RefAt wl σ k n f) (hd : decode cc pc = .ok (.aaload, 1)) (kk : ib i n = true → AW wl y cc nL ret rm em K (pc + 1) L (.inr (f i.toNatClampNeg) :: st) σ) : AW wl y cc nL ret rm em (@ite _ (ib i n = true) d K none) pc L (.inl i :: .inr (some k) :: st) σ := by
  refine aw_chk (fun h => ?_)
  intro r σ' hK p l e s m args below meth c D cI cZ cD A hC ad H locs ls hP hD hS hl
  exact va_aldq (D := D) hC.1 hC.2.1 hC.2.2.2.2.2.2.2.1 hP k 2 (hI cI cZ cD ad) rfl (ib_in h) hd (kk h r σ' hK p l e s m args below meth c D cI cZ cD A hC ad H locs ls hP hD hS hl)
theorem aw_iast {k n : Nat} {f : Nat → Int32} {i x : Int32} {σ2 : ST} {d : Decidable (ib i n = true)} (hI : IntAt wl σ k n f) (hs : ∀ cI cZ cD ad, (wl cI cZ cD ad σ).set k (ad k, .inl (cI, n, .inl (upd f i.toNatClampNeg x))) = wl cI cZ cD ad σ2) (hd : decode cc pc = .ok (.iastore, 1)) (kk : ib i n = true → AW wl y cc nL ret rm em K (pc + 1) L st σ2) : AW wl y cc nL ret rm em (@ite _ (ib i n = true) d K none) pc L (.inl x :: .inl i :: .inr (some k) :: st) σ := by
  refine aw_chk (fun h => ?_)
  intro r σ' hK p l e s m args below meth c D cI cZ cD A hC ad H locs ls hP hD hS hl
  refine va_iast (D := D) hC.1 hC.2.1 hC.2.2.2.2.2.2.2.1 hP hD hS k 0 (hI cI cZ cD ad) rfl (ib_in h) hd (fun H1 locs1 hP1 hD1 hS1 => ?_)
  rw [hs] at hP1 hD1
  exact kk h r σ' hK p l e s m args below meth c D cI cZ cD A hC ad H1 locs1 ls hP1 hD1 hS1 hl
theorem aw_bast {k n : Nat} {f : Nat → Int32} {i x : Int32} {σ2 : ST} {d : Decidable (ib i n = true)} (hI : BoolAt wl σ k n f) (hs : ∀ cI cZ cD ad, (wl cI cZ cD ad σ).set k (ad k, .inl (cZ, n, .inl (upd f i.toNatClampNeg (vp_nar .boolean x)))) = wl cI cZ cD ad σ2) (hd : decode cc pc = .ok (.bastore, 1)) (kk : ib i n = true → AW wl y cc nL ret rm em K (pc + 1) L st σ2) : AW wl y cc nL ret rm em (@ite _ (ib i n = true) d K none) pc L (.inl x :: .inl i :: .inr (some k) :: st) σ := by
  refine aw_chk (fun h => ?_)
  intro r σ' hK p l e s m args below meth c D cI cZ cD A hC ad H locs ls hP hD hS hl
  refine va_zast (D := D) hC.1 hC.2.1 hC.2.2.2.2.2.2.2.1 hP hD hS k 1 (hI cI cZ cD ad) rfl (ib_in h) hd (fun H1 locs1 hP1 hD1 hS1 => ?_)
  rw [hs] at hP1 hD1
  exact kk h r σ' hK p l e s m args below meth c D cI cZ cD A hC ad H1 locs1 ls hP1 hD1 hS1 hl
theorem aw_acmp_ne {a b : Option Nat} {d : Decidable (a = b)} {off : Int} {tgt : Nat} (ha : ∀ (cI cZ cD : ClassId) (ad : Nat → Nat) (A : Nat → Prop), va_D A (wl cI cZ cD ad σ) → (a.map ad = b.map ad ↔ a = b)) (hd : decode cc pc = .ok (.if_acmp .ne off, 3)) (ht : (pc : Int) + off = (tgt : Int)) (kf : a = b → AW wl y cc nL ret rm em K1 (pc + 3) L st σ) (kt : ¬ a = b → AW wl y cc nL ret rm em K2 tgt L st σ) : AW wl y cc nL ret rm em (@ite _ (a = b) d K1 K2) pc L (.inr b :: .inr a :: st) σ := by
  intro r σ' hK p l e s m args below meth c D cI cZ cD A hC ad H locs ls hP hD hS hl
  have hq := ha cI cZ cD ad A hD
  exact lv_acmp_ne hC.1 hC.2.1 hd ht (fun h => kt (fun e => h (hq.mpr e)) r σ' ((if_neg (fun e => h (hq.mpr e))).symm.trans hK) p l e s m args below meth c D cI cZ cD A hC ad H locs ls hP hD hS hl) (fun h => kf (hq.mp h) r σ' ((if_pos (hq.mp h)).symm.trans hK) p l e s m args below meth c D cI cZ cD A hC ad H locs ls hP hD hS hl)
theorem aw_mmin {idx : Nat} {x z : Int32} (h1 : Cond.methodLink y.cls idx Lib.Math.min.name ∈ WT) (h2 : Cond.static Lib.Math.min.name ∈ WT) (h3 : Cond.initialized "java/lang/Math" ∈ WT) (h4 : Cond.code Lib.Math.min.name Lib.Math.min.code 2 (some .int) ∈ WT) (hf : 1 ≤ rm.frames) (hlo : st.length + 13 ≤ rm.locals) (hd : decode cc pc = .ok (.invokestatic idx, 3)) (k : AW wl y cc nL ret rm em K (pc + 3) L (.inl (if z < x then z else x) :: st) σ) : AW wl y cc nL ret rm em K pc L (.inl z :: .inl x :: st) σ := by
  intro r σ' hK p l e s m args below meth c D cI cZ cD A hC ad H locs ls hP hD hS hl
  have hts : ∀ w ∈ WT, w.before args s = true := fun w hw => hC.2.2.2.1 w (List.mem_cons_of_mem _ hw)
  exact va_mmin hC.1 hC.2.1 (hC.2.2.2.2.2.1.trans hl.1.symm) hC.2.2.2.2.1 (hts _ h1) (hts _ h2) (hts _ h3) (hts _ h4) hf (by rw [av_sum]; exact hlo) (Nat.zero_le _) (Nat.zero_le _) hd (k r σ' hK p l e s m args below meth c D cI cZ cD A hC ad H locs ls hP hD hS hl)
theorem aw_mabs {idx : Nat} {x : Int32} (h1 : Cond.methodLink y.cls idx Lib.Math.abs.name ∈ WT) (h2 : Cond.static Lib.Math.abs.name ∈ WT) (h3 : Cond.initialized "java/lang/Math" ∈ WT) (h4 : Cond.code Lib.Math.abs.name Lib.Math.abs.code 1 (some .int) ∈ WT) (hf : 1 ≤ rm.frames) (hlo : st.length + 13 ≤ rm.locals) (hd : decode cc pc = .ok (.invokestatic idx, 3)) (k : AW wl y cc nL ret rm em K (pc + 3) L (.inl (if 0 ≤ x then x else 0 - x) :: st) σ) : AW wl y cc nL ret rm em K pc L (.inl x :: st) σ := by
  intro r σ' hK p l e s m args below meth c D cI cZ cD A hC ad H locs ls hP hD hS hl
  have hts : ∀ w ∈ WT, w.before args s = true := fun w hw => hC.2.2.2.1 w (List.mem_cons_of_mem _ hw)
  exact va_mabs hC.1 hC.2.1 (hC.2.2.2.2.2.1.trans hl.1.symm) hC.2.2.2.2.1 (hts _ h1) (hts _ h2) (hts _ h3) (hts _ h4) hf (by rw [av_sum]; exact hlo) (Nat.zero_le _) (Nat.zero_le _) hd (k r σ' hK p l e s m args below meth c D cI cZ cD A hC ad H locs ls hP hD hS hl)
end AWR
