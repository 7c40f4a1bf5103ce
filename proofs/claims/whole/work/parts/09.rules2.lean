section AWE
variable {wl : WL} {y : MethodName} {cc : ByteArray} {nL : Nat} {ret : Option FieldType} {rm : Room} {ρ : Type} {em : ρ → Option AV} {K K1 K2 : Option (ρ × ST)} {pc : Nat} {L L' : List (Option AV)} {st : List AV} {σ : ST}
theorem aw_deref {x : Option Nat} {f : Nat → Option (ρ × ST)} (h : ∀ k, x = some k → AW wl y cc nL ret rm em (f k) pc L st σ) : AW wl y cc nL ret rm em (x.elim none f) pc L st σ := by
  cases x with
  | none => exact aw_none
  | some k => exact h k rfl
theorem aw_getQ {idx k ci j : Nat} {fs : List AV} {x : Option Nat} {f : Option Nat → Option (ρ × ST)} (hF : FieldOK y.cls idx ci j) (hO : ObjAt wl σ k ci fs) (hv : fs[j]? = some (.inr x)) (hd : decode cc pc = .ok (.getfield idx, 3)) (kk : ∀ v, AW wl y cc nL ret rm em (f v) (pc + 3) L (.inr v :: st) σ) : AW wl y cc nL ret rm em (bindv x f) pc L (.inr (some k) :: st) σ := aw_get hF hO hv hd (kk x)
end AWE
