-- the rules that the printed walks use (own work)
def bindv {α β : Type} (x : α) (f : α → β) : β := f x
def cb {α β : Type} (x : Option (α × ST)) (k : α → ST → Option β) : Option β := x.bind (fun q => k q.1 q.2)
abbrev emI : Int32 → Option AV := fun x => some (.inl x)
abbrev emV : Unit → Option AV := fun _ => none
abbrev emR : Option Nat → Option AV := fun x => some (.inr x)
def wk (L' L : List (Option AV)) : Prop := ∀ (i : Nat) (v : AV), L'[i]? = some (some v) → L[i]? = some (some v)
theorem wk_nil {L : List (Option AV)} : wk [] L := fun i v h => by simp at h
theorem wk_none {L' L : List (Option AV)} {o : Option AV} (h : wk L' L) : wk (none :: L') (o :: L) := fun i v hi => by
  cases i with
  | zero => simp at hi
  | succ i => exact h i v (by simpa using hi)
theorem wk_same {L' L : List (Option AV)} {o : Option AV} (h : wk L' L) : wk (o :: L') (o :: L) := fun i v hi => by
  cases i with
  | zero => exact hi
  | succ i => exact h i v (by simpa using hi)
section AWB
variable {wl : WL} {y : MethodName} {cc : ByteArray} {nL : Nat} {ret : Option FieldType} {rm : Room} {ρ : Type} {em : ρ → Option AV} {K K1 K2 : Option (ρ × ST)} {pc : Nat} {L L' : List (Option AV)} {st : List AV} {σ : ST}
theorem aw_wk (hs : wk L' L) (k : AW wl y cc nL ret rm em K pc L' st σ) : AW wl y cc nL ret rm em K pc L st σ := aw_weak hs k
theorem aw_stn {kk : Fin 4} {i : Nat} {x : Int32} (hd : decode cc pc = .ok (.istore_n kk, 1)) (hi : (kk : Nat) = i) (hn : i < nL) (hL : L.set i (some (.inl x)) = L') (k : AW wl y cc nL ret rm em K (pc + 1) L' st σ) : AW wl y cc nL ret rm em K pc L (.inl x :: st) σ := by subst hL; exact aw_istore_n hd hi hn k
theorem aw_st {i : Nat} {x : Int32} (hd : decode cc pc = .ok (.istore i, 2)) (hn : i < nL) (hL : L.set i (some (.inl x)) = L') (k : AW wl y cc nL ret rm em K (pc + 2) L' st σ) : AW wl y cc nL ret rm em K pc L (.inl x :: st) σ := by subst hL; exact aw_istore hd hn k
theorem aw_stnB {kk : Fin 4} {i : Nat} {x : Int32} {f : Int32 → Option (ρ × ST)} {Lf : Int32 → List (Option AV)} (hd : decode cc pc = .ok (.istore_n kk, 1)) (hi : (kk : Nat) = i) (hn : i < nL) (hL : ∀ v, L.set i (some (.inl v)) = Lf v) (k : ∀ v, AW wl y cc nL ret rm em (f v) (pc + 1) (Lf v) st σ) : AW wl y cc nL ret rm em (bindv x f) pc L (.inl x :: st) σ := aw_istore_n hd hi hn ((hL x).symm ▸ k x)
theorem aw_stB {i : Nat} {x : Int32} {f : Int32 → Option (ρ × ST)} {Lf : Int32 → List (Option AV)} (hd : decode cc pc = .ok (.istore i, 2)) (hn : i < nL) (hL : ∀ v, L.set i (some (.inl v)) = Lf v) (k : ∀ v, AW wl y cc nL ret rm em (f v) (pc + 2) (Lf v) st σ) : AW wl y cc nL ret rm em (bindv x f) pc L (.inl x :: st) σ := aw_istore hd hn ((hL x).symm ▸ k x)
theorem aw_iincB {i : Nat} {n : Int} {x v : Int32} {f : Int32 → Option (ρ × ST)} {Lf : Int32 → List (Option AV)} (hd : decode cc pc = .ok (.iinc i n, 3)) (hx : L[i]? = some (some (.inl x))) (hv : Int32.ofInt n = v) (hn : i < nL) (hL : ∀ v, L.set i (some (.inl v)) = Lf v) (k : ∀ v, AW wl y cc nL ret rm em (f v) (pc + 3) (Lf v) st σ) : AW wl y cc nL ret rm em (bindv (x + v) f) pc L st σ := aw_iinc hd hx hv hn ((hL (x + v)).symm ▸ k (x + v))
theorem aw_astn {kk : Fin 4} {i : Nat} {x : Option Nat} (hd : decode cc pc = .ok (.astore_n kk, 1)) (hi : (kk : Nat) = i) (hn : i < nL) (hL : L.set i (some (.inr x)) = L') (k : AW wl y cc nL ret rm em K (pc + 1) L' st σ) : AW wl y cc nL ret rm em K pc L (.inr x :: st) σ := by subst hL; exact aw_astore_n hd hi hn k
theorem aw_ast {i : Nat} {x : Option Nat} (hd : decode cc pc = .ok (.astore i, 2)) (hn : i < nL) (hL : L.set i (some (.inr x)) = L') (k : AW wl y cc nL ret rm em K (pc + 2) L' st σ) : AW wl y cc nL ret rm em K pc L (.inr x :: st) σ := by subst hL; exact aw_astore hd hn k
theorem aw_null (hd : decode cc pc = .ok (.aconst_null, 1)) (k : AW wl y cc nL ret rm em K (pc + 1) L (.inr none :: st) σ) : AW wl y cc nL ret rm em K pc L st σ := by
  intro r σ' hK p l e s m args below meth c D cI cZ cD A hC ad H locs ls hP hD hS hl
  exact lv_null hC.1 hC.2.1 hd (k r σ' hK p l e s m args below meth c D cI cZ cD A hC ad H locs ls hP hD hS hl)
theorem aw_elim {x : Option Nat} {f : Nat → Option (ρ × ST)} {off : Int} {tgt : Nat} (hd : decode cc pc = .ok (.ifnull off, 3)) (ht : (pc : Int) + off = (tgt : Int)) (kt : x = none → AW wl y cc nL ret rm em K1 tgt L st σ) (kf : ∀ k, x = some k → AW wl y cc nL ret rm em (f k) (pc + 3) L st σ) : AW wl y cc nL ret rm em (x.elim K1 f) pc L (.inr x :: st) σ := by
  intro r σ' hK p l e s m args below meth c D cI cZ cD A hC ad H locs ls hP hD hS hl
  cases x with
  | none => exact lv_ifnullN hC.1 hC.2.1 hd ht (kt rfl r σ' hK p l e s m args below meth c D cI cZ cD A hC ad H locs ls hP hD hS hl)
  | some a => exact lv_ifnull hC.1 hC.2.1 hd (kf a rfl r σ' hK p l e s m args below meth c D cI cZ cD A hC ad H locs ls hP hD hS hl)
theorem aw_elimN {x : Option Nat} {f : Nat → Option (ρ × ST)} {off : Int} {tgt : Nat} (hd : decode cc pc = .ok (.ifnonnull off, 3)) (ht : (pc : Int) + off = (tgt : Int)) (kf : x = none → AW wl y cc nL ret rm em K1 (pc + 3) L st σ) (kt : ∀ k, x = some k → AW wl y cc nL ret rm em (f k) tgt L st σ) : AW wl y cc nL ret rm em (x.elim K1 f) pc L (.inr x :: st) σ := by
  intro r σ' hK p l e s m args below meth c D cI cZ cD A hC ad H locs ls hP hD hS hl
  cases x with
  | none => exact lv_ifnonnullN hC.1 hC.2.1 hd (kf rfl r σ' hK p l e s m args below meth c D cI cZ cD A hC ad H locs ls hP hD hS hl)
  | some a => exact lv_ifnonnull hC.1 hC.2.1 hd ht (kt a rfl r σ' hK p l e s m args below meth c D cI cZ cD A hC ad H locs ls hP hD hS hl)
theorem aw_putB {idx k ci j : Nat} {fs : List AV} {v : AV} {ty : FieldType} {σ2 : ST} {f : ST → Option (ρ × ST)} (hF : FieldW y.cls idx ci j ty) (hO : ObjAt wl σ k ci fs) (hj : j < fs.length) (hn : ∀ ad, narrow ty (av_v ad v) = av_v ad v) (hfit : ∀ ad, fits ty (av_v ad v) = true) (hs : ∀ cI cZ cD ad, (wl cI cZ cD ad σ).set k (ad k, .inr (ci, (fs.set j v).map (av_v ad))) = wl cI cZ cD ad σ2) (hd : decode cc pc = .ok (.putfield idx, 3)) (kk : ∀ τ, AW wl y cc nL ret rm em (f τ) (pc + 3) L st τ) : AW wl y cc nL ret rm em (bindv σ2 f) pc L (v :: .inr (some k) :: st) σ := aw_put hF hO hj hn hfit hs hd (kk σ2)
theorem aw_putI {idx k ci j : Nat} {fs : List AV} {x : Int32} {σ2 : ST} {f : ST → Option (ρ × ST)} (hF : FieldW y.cls idx ci j .int) (hO : ObjAt wl σ k ci fs) (hj : j < fs.length) (hs : ∀ cI cZ cD ad, (wl cI cZ cD ad σ).set k (ad k, .inr (ci, (fs.set j (.inl x)).map (av_v ad))) = wl cI cZ cD ad σ2) (hd : decode cc pc = .ok (.putfield idx, 3)) (kk : ∀ τ, AW wl y cc nL ret rm em (f τ) (pc + 3) L st τ) : AW wl y cc nL ret rm em (bindv σ2 f) pc L (.inl x :: .inr (some k) :: st) σ := aw_putB hF hO hj (fun _ => rfl) (fun _ => rfl) hs hd kk
theorem aw_putZ {idx k ci j : Nat} {fs : List AV} {x : Int32} {σ2 : ST} {f : ST → Option (ρ × ST)} (hF : FieldW y.cls idx ci j .boolean) (hO : ObjAt wl σ k ci fs) (hj : j < fs.length) (hx : x = 0 ∨ x = 1) (hs : ∀ cI cZ cD ad, (wl cI cZ cD ad σ).set k (ad k, .inr (ci, (fs.set j (.inl x)).map (av_v ad))) = wl cI cZ cD ad σ2) (hd : decode cc pc = .ok (.putfield idx, 3)) (kk : ∀ τ, AW wl y cc nL ret rm em (f τ) (pc + 3) L st τ) : AW wl y cc nL ret rm em (bindv σ2 f) pc L (.inl x :: .inr (some k) :: st) σ := by
  refine aw_putB hF hO hj ?_ ?_ hs hd kk
  · rcases hx with rfl | rfl <;> exact fun _ => rfl
  · rcases hx with rfl | rfl <;> exact fun _ => rfl
theorem aw_putQ {idx k ci j : Nat} {fs : List AV} {x : Option Nat} {C : String} {σ2 : ST} {f : ST → Option (ρ × ST)} (hF : FieldW y.cls idx ci j (.object C)) (hO : ObjAt wl σ k ci fs) (hj : j < fs.length) (hs : ∀ cI cZ cD ad, (wl cI cZ cD ad σ).set k (ad k, .inr (ci, (fs.set j (.inr x)).map (av_v ad))) = wl cI cZ cD ad σ2) (hd : decode cc pc = .ok (.putfield idx, 3)) (kk : ∀ τ, AW wl y cc nL ret rm em (f τ) (pc + 3) L st τ) : AW wl y cc nL ret rm em (bindv σ2 f) pc L (.inr x :: .inr (some k) :: st) σ := by
  refine aw_putB hF hO hj ?_ ?_ hs hd kk
  · cases x <;> exact fun _ => rfl
  · cases x <;> exact fun _ => rfl
theorem aw_iastB {k n : Nat} {g : Nat → Int32} {i x : Int32} {σ2 : ST} {f : ST → Option (ρ × ST)} {d : Decidable (ib i n = true)} (hI : IntAt wl σ k n g) (hs : ∀ cI cZ cD ad, (wl cI cZ cD ad σ).set k (ad k, .inl (cI, n, .inl (upd g i.toNatClampNeg x))) = wl cI cZ cD ad σ2) (hd : decode cc pc = .ok (.iastore, 1)) (kk : ∀ τ, AW wl y cc nL ret rm em (f τ) (pc + 1) L st τ) : AW wl y cc nL ret rm em (@ite _ (ib i n = true) d (bindv σ2 f) none) pc L (.inl x :: .inl i :: .inr (some k) :: st) σ := aw_iast hI hs hd (fun _ => kk σ2)
theorem aw_bastB {k n : Nat} {g : Nat → Int32} {i x : Int32} {σ2 : ST} {f : ST → Option (ρ × ST)} {d : Decidable (ib i n = true)} (hI : BoolAt wl σ k n g) (hs : ∀ cI cZ cD ad, (wl cI cZ cD ad σ).set k (ad k, .inl (cZ, n, .inl (upd g i.toNatClampNeg (vp_nar .boolean x)))) = wl cI cZ cD ad σ2) (hd : decode cc pc = .ok (.bastore, 1)) (kk : ∀ τ, AW wl y cc nL ret rm em (f τ) (pc + 1) L st τ) : AW wl y cc nL ret rm em (@ite _ (ib i n = true) d (bindv σ2 f) none) pc L (.inl x :: .inl i :: .inr (some k) :: st) σ := aw_bast hI hs hd (fun _ => kk σ2)
theorem aw_iald' {k n : Nat} {g : Nat → Int32} {i : Int32} {d : Decidable (ib i n = true)} (hI : IntAt wl σ k n g) (hd : decode cc pc = .ok (.iaload, 1)) (kk : AW wl y cc nL ret rm em K (pc + 1) L (.inl (g i.toNatClampNeg) :: st) σ) : AW wl y cc nL ret rm em (@ite _ (ib i n = true) d K none) pc L (.inl i :: .inr (some k) :: st) σ := aw_iald hI hd (fun _ => kk)
theorem aw_bald' {k n : Nat} {g : Nat → Int32} {i : Int32} {d : Decidable (ib i n = true)} (hI : BoolAt wl σ k n g) (hd : decode cc pc = .ok (.baload, 1)) (kk : AW wl y cc nL ret rm em K (pc + 1) L (.inl (g i.toNatClampNeg) :: st) σ) : AW wl y cc nL ret rm em (@ite _ (ib i n = true) d K none) pc L (.inl i :: .inr (some k) :: st) σ := aw_bald hI hd (fun _ => kk)
theorem aw_aaldB {k n : Nat} {g : Nat → Option Nat} {i : Int32} {f : Option Nat → Option (ρ × ST)} {d : Decidable (ib i n = true)} (hI : RefAt wl σ k n g) (hd : decode cc pc = .ok (.aaload, 1)) (kk : ∀ v, AW wl y cc nL ret rm em (f v) (pc + 1) L (.inr v :: st) σ) : AW wl y cc nL ret rm em (@ite _ (ib i n = true) d (bindv (g i.toNatClampNeg) f) none) pc L (.inl i :: .inr (some k) :: st) σ := aw_aald hI hd (fun _ => kk _)
theorem aw_rz {v : Int32} {d : Decidable (v = 0 ∨ v = 1)} {rr : ρ} (hem : em rr = some (.inl v)) (hr : ret = some .boolean) (hd : decode cc pc = .ok (.ireturn, 1)) : AW wl y cc nL ret rm em (@ite _ (v = 0 ∨ v = 1) d (some (rr, σ)) none) pc L [.inl v] σ := aw_chk (fun h => aw_ret_i hem hr (by rcases h with rfl | rfl <;> rfl) hd)
theorem aw_switch5 {x : Int32} {d0 : Decidable (x = 0)} {d1 : Decidable (x = 1)} {d2 : Decidable (x = 2)} {d3 : Decidable (x = 3)} {d4 : Decidable (x = 4)} {k0 k1 k2 k3 k4 kd : Option (ρ × ST)} {df o0 o1 o2 o3 o4 : Int} {len t0 t1 t2 t3 t4 td : Nat} (hd : decode cc pc = .ok (.tableswitch df 0 4 #[o0, o1, o2, o3, o4], len)) (h0 : (pc : Int) + o0 = (t0 : Int)) (h1 : (pc : Int) + o1 = (t1 : Int)) (h2 : (pc : Int) + o2 = (t2 : Int)) (h3 : (pc : Int) + o3 = (t3 : Int)) (h4 : (pc : Int) + o4 = (t4 : Int)) (hdf : (pc : Int) + df = (td : Int))
    (q0 : AW wl y cc nL ret rm em k0 t0 L st σ) (q1 : AW wl y cc nL ret rm em k1 t1 L st σ) (q2 : AW wl y cc nL ret rm em k2 t2 L st σ) (q3 : AW wl y cc nL ret rm em k3 t3 L st σ) (q4 : AW wl y cc nL ret rm em k4 t4 L st σ) (qd : AW wl y cc nL ret rm em kd td L st σ) :
    AW wl y cc nL ret rm em (@ite _ (x = 0) d0 k0 (@ite _ (x = 1) d1 k1 (@ite _ (x = 2) d2 k2 (@ite _ (x = 3) d3 k3 (@ite _ (x = 4) d4 k4 kd))))) pc L (.inl x :: st) σ := by
  intro r σ' hK p l e s m args below meth c D cI cZ cD A hC ad H locs ls hP hD hS hl
  by_cases e0 : x = 0
  · rw [if_pos e0] at hK; subst e0
    exact lv_tableIn (off := o0) hC.1 hC.2.1 hd (by decide) (by decide) rfl h0 (q0 r σ' hK p l e s m args below meth c D cI cZ cD A hC ad H locs ls hP hD hS hl)
  rw [if_neg e0] at hK
  by_cases e1 : x = 1
  · rw [if_pos e1] at hK; subst e1
    exact lv_tableIn (off := o1) hC.1 hC.2.1 hd (by decide) (by decide) rfl h1 (q1 r σ' hK p l e s m args below meth c D cI cZ cD A hC ad H locs ls hP hD hS hl)
  rw [if_neg e1] at hK
  by_cases e2 : x = 2
  · rw [if_pos e2] at hK; subst e2
    exact lv_tableIn (off := o2) hC.1 hC.2.1 hd (by decide) (by decide) rfl h2 (q2 r σ' hK p l e s m args below meth c D cI cZ cD A hC ad H locs ls hP hD hS hl)
  rw [if_neg e2] at hK
  by_cases e3 : x = 3
  · rw [if_pos e3] at hK; subst e3
    exact lv_tableIn (off := o3) hC.1 hC.2.1 hd (by decide) (by decide) rfl h3 (q3 r σ' hK p l e s m args below meth c D cI cZ cD A hC ad H locs ls hP hD hS hl)
  rw [if_neg e3] at hK
  by_cases e4 : x = 4
  · rw [if_pos e4] at hK; subst e4
    exact lv_tableIn (off := o4) hC.1 hC.2.1 hd (by decide) (by decide) rfl h4 (q4 r σ' hK p l e s m args below meth c D cI cZ cD A hC ad H locs ls hP hD hS hl)
  rw [if_neg e4] at hK
  refine lv_tableOut hC.1 hC.2.1 hd ?_ hdf (qd r σ' hK p l e s m args below meth c D cI cZ cD A hC ad H locs ls hP hD hS hl)
  have g : ∀ n : Int32, x ≠ n → x.toInt ≠ n.toInt := fun n hn h => hn (Int32.toInt_inj.mp h)
  have a0 : x.toInt ≠ 0 := g 0 e0
  have a1 : x.toInt ≠ 1 := g 1 e1
  have a2 : x.toInt ≠ 2 := g 2 e2
  have a3 : x.toInt ≠ 3 := g 3 e3
  have a4 : x.toInt ≠ 4 := g 4 e4
  omega
variable {ρ2 : Type} {y2 : MethodName} {cc2 : ByteArray} {nL2 : Nat} {ret2 : Option FieldType} {rm2 : Room} {as : List AV} {b ci idx : Nat} {fs : List AV} {T : u_T} {N : Nat} {stk : List AV}
theorem aw_cVI {K2 : Option (Int32 × ST)} {k : Int32 → ST → Option (ρ × ST)} (hM : MS wl y2 cc2 nL2 ret2 rm2 emI (.inr (some b) :: as) σ K2) (hO : ObjAt wl σ b ci fs) (hc : vwCl[ci]? = some (y2.cls, T, N)) (hC2 : CallOK y.cls idx y2 cc2 nL2 ret2 as.length) (hR : RoomOK rm rm2 nL2) (hst : st.length ≤ 8) (hd : decode cc pc = .ok (.invokevirtual idx, 3)) (hstk : stk = as.reverse ++ .inr (some b) :: st)
    (kk : ∀ r2 σ2, AW wl y cc nL ret rm em (k r2 σ2) (pc + 3) L (.inl r2 :: st) σ2) : AW wl y cc nL ret rm em (cb K2 k) pc L stk σ := aw_callV hM hO hc hC2 hR hst hd hstk kk
theorem aw_cVV {K2 : Option (Unit × ST)} {k : Unit → ST → Option (ρ × ST)} (hM : MS wl y2 cc2 nL2 ret2 rm2 emV (.inr (some b) :: as) σ K2) (hO : ObjAt wl σ b ci fs) (hc : vwCl[ci]? = some (y2.cls, T, N)) (hC2 : CallOK y.cls idx y2 cc2 nL2 ret2 as.length) (hR : RoomOK rm rm2 nL2) (hst : st.length ≤ 8) (hd : decode cc pc = .ok (.invokevirtual idx, 3)) (hstk : stk = as.reverse ++ .inr (some b) :: st)
    (kk : ∀ r2 σ2, AW wl y cc nL ret rm em (k r2 σ2) (pc + 3) L st σ2) : AW wl y cc nL ret rm em (cb K2 k) pc L stk σ := aw_callV hM hO hc hC2 hR hst hd hstk kk
theorem aw_cVR {K2 : Option (Option Nat × ST)} {k : Option Nat → ST → Option (ρ × ST)} (hM : MS wl y2 cc2 nL2 ret2 rm2 emR (.inr (some b) :: as) σ K2) (hO : ObjAt wl σ b ci fs) (hc : vwCl[ci]? = some (y2.cls, T, N)) (hC2 : CallOK y.cls idx y2 cc2 nL2 ret2 as.length) (hR : RoomOK rm rm2 nL2) (hst : st.length ≤ 8) (hd : decode cc pc = .ok (.invokevirtual idx, 3)) (hstk : stk = as.reverse ++ .inr (some b) :: st)
    (kk : ∀ r2 σ2, AW wl y cc nL ret rm em (k r2 σ2) (pc + 3) L (.inr r2 :: st) σ2) : AW wl y cc nL ret rm em (cb K2 k) pc L stk σ := aw_callV hM hO hc hC2 hR hst hd hstk kk
theorem aw_cSI {K2 : Option (Int32 × ST)} {k : Int32 → ST → Option (ρ × ST)} (hM : MS wl y2 cc2 nL2 ret2 rm2 emI as σ K2) (hC2 : CallSOK y.cls idx y2 cc2 nL2 ret2 as.length) (hR : RoomOK rm rm2 nL2) (hst : st.length ≤ 8) (hd : decode cc pc = .ok (.invokestatic idx, 3)) (hstk : stk = as.reverse ++ st)
    (kk : ∀ r2 σ2, AW wl y cc nL ret rm em (k r2 σ2) (pc + 3) L (.inl r2 :: st) σ2) : AW wl y cc nL ret rm em (cb K2 k) pc L stk σ := aw_callS hM hC2 hR hst hd hstk kk
end AWB
section AWX
variable {y : MethodName} {cc : ByteArray} {nL : Nat} {ret : Option FieldType} {rm : Room} {ρ : Type} {em : ρ → Option AV} {K K1 K2 : Option (ρ × ST)} {pc : Nat} {L L' : List (Option AV)} {st : List AV} {σ : ST}
theorem aw_getD {idx k j : Nat} {v : AV} {d : Decidable (isDr σ k = true)} (hF : FieldOK y.cls idx 0 j) (hv : (obD σ k)[j]? = some v) (hd : decode cc pc = .ok (.getfield idx, 3)) (kk : AW wlX y cc nL ret rm em K (pc + 3) L (v :: st) σ) : AW wlX y cc nL ret rm em (@ite _ (isDr σ k = true) d K none) pc L (.inr (some k) :: st) σ := aw_chk (fun h => aw_get hF (atD h) hv hd kk)
theorem aw_putD {idx k : Nat} {x : Int32} {f : ST → Option (ρ × ST)} {d : Decidable (isDr σ k = true)} (hF : FieldW y.cls idx 0 0 .int) (hd : decode cc pc = .ok (.putfield idx, 3)) (kk : ∀ τ, AW wlX y cc nL ret rm em (f τ) (pc + 3) L st τ) : AW wlX y cc nL ret rm em (@ite _ (isDr σ k = true) d (bindv (stI σ k 0 x) f) none) pc L (.inl x :: .inr (some k) :: st) σ := aw_chk (fun h => aw_putI hF (atD h) (Nat.zero_lt_succ _) (stD h x) hd kk)
theorem aw_ildR {k : Nat} {i : Int32} {d : Decidable ((isRw σ k && ib i 20) = true)} (hd : decode cc pc = .ok (.iaload, 1)) (kk : AW wlX y cc nL ret rm em K (pc + 1) L (.inl (σ.1 k i.toNatClampNeg) :: st) σ) : AW wlX y cc nL ret rm em (@ite _ ((isRw σ k && ib i 20) = true) d K none) pc L (.inl i :: .inr (some k) :: st) σ := aw_chk (fun h => by
  rw [Bool.and_eq_true] at h
  have := aw_iald (K := K) (i := i) (d := inferInstance) (atR h.1) hd (fun _ => kk)
  rw [if_pos h.2] at this
  exact this)
theorem aw_istR {k : Nat} {i x : Int32} {f : ST → Option (ρ × ST)} {d : Decidable ((isRw σ k && ib i 20) = true)} (hd : decode cc pc = .ok (.iastore, 1)) (kk : ∀ τ, AW wlX y cc nL ret rm em (f τ) (pc + 1) L st τ) : AW wlX y cc nL ret rm em (@ite _ ((isRw σ k && ib i 20) = true) d (bindv (stI σ k i.toNatClampNeg x) f) none) pc L (.inl x :: .inl i :: .inr (some k) :: st) σ := aw_chk (fun h => by
  rw [Bool.and_eq_true] at h
  have := aw_iastB (i := i) (x := x) (f := f) (d := inferInstance) (atR h.1) (stRw h.1 i.toNatClampNeg x) hd kk
  rw [if_pos h.2] at this
  exact this)
theorem wlX_inj {σ : ST} {cI cZ cD : ClassId} {ad : Nat → Nat} {A : Nat → Prop} (h : va_D A (wlX cI cZ cD ad σ)) {a b : Nat} (ha : a < nX σ) (hb : b < nX σ) (e : ad a = ad b) : a = b := h.1 a b _ _ (wlOf_at ha) (wlOf_at hb) e
/-- two references of the class's side are the same cell just when their names are -/
def refOK (σ : ST) (a : Option Nat) : Bool := match a with
  | none => true
  | some k => decide (k < nX σ)
theorem aw_acmpX {a b : Option Nat} {d0 : Decidable ((refOK σ a && refOK σ b) = true)} {d : Decidable (a = b)} {off : Int} {tgt : Nat} (hd : decode cc pc = .ok (.if_acmp .ne off, 3)) (ht : (pc : Int) + off = (tgt : Int)) (kf : a = b → AW wlX y cc nL ret rm em K1 (pc + 3) L st σ) (kt : ¬ a = b → AW wlX y cc nL ret rm em K2 tgt L st σ) : AW wlX y cc nL ret rm em (@ite _ ((refOK σ a && refOK σ b) = true) d0 (@ite _ (a = b) d K1 K2) none) pc L (.inr b :: .inr a :: st) σ := aw_chk (fun h => by
  rw [Bool.and_eq_true] at h
  refine aw_acmp_ne (fun cI cZ cD ad A hD => ⟨fun e => ?_, fun e => by rw [e]⟩) hd ht kf kt
  cases a with
  | none => cases b with
    | none => rfl
    | some b => cases e
  | some a => cases b with
    | none => cases e
    | some b =>
      have e2 : ad a = ad b := Option.some.inj e
      rw [wlX_inj hD (of_decide_eq_true h.1) (of_decide_eq_true h.2) e2])
end AWX
