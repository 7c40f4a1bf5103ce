theorem inv_start : InvW sX0 sM0 := by
  refine ⟨fun _ _ => 0, aup (aup (fun _ _ => 0) 5 0 20) 5 1 200, ?_⟩
  have hrow : ∀ a b, a ≠ 5 → aup (aup (fun _ _ => 0) 5 0 20) 5 1 200 a b = 0 := fun a b h => by rw [au_row _ h, au_row _ h]
  have e0 : aup (aup (fun _ _ => 0) 5 0 20) 5 1 200 5 0 = 20 := by rw [au_idx _ (by decide), au_at]
  have e1 : aup (aup (fun _ _ => 0) 5 0 20) 5 1 200 5 1 = 200 := au_at _ _ _ _
  generalize aup (aup (fun _ _ => 0) 5 0 20) 5 1 200 = A at hrow e0 e1
  have h0 := hrow 0 0 (by decide)
  have h3 := hrow 3 0 (by decide)
  have h6 := hrow 6 0 (by decide)
  have hR : nR (fun _ _ => 0) = 0 := rfl
  have hW : WFN (fun _ _ => 0) := ⟨by omega, fun r hr => by omega⟩
  refine ⟨⟨⟨by omega, fun i hi => by omega, fun r hr => by omega⟩, ⟨by omega, fun d hd => by omega⟩, ⟨by omega, by omega, by omega, by omega⟩, by omega, fun i hi => by omega⟩, ⟨⟨hW, rfl, fun r hr => by omega, fun r s hr => by omega⟩, fun g hg => by omega, ⟨⟨by rw [h0]; rfl, fun i hi => by omega⟩, ⟨by rw [h3]; rfl, by rw [h3]; rfl, fun d => by rw [h3, if_neg (by omega)]; rfl, fun d hd => by omega⟩, ⟨by rw [e0]; rfl, by rw [e1]; rfl⟩, by rw [h6]; rfl, fun i hi => by omega⟩, fun r s h1 h2 _ => ?_, Or.inl rfl⟩, ⟨hW, rfl, fun r hr => by omega, fun r s hr => by omega⟩, Or.inl rfl, ⟨⟨by rw [h0]; rfl, fun i hi => by omega⟩, ⟨by rw [h3]; rfl, fun d hd => by rw [h3, if_neg (by omega)]; rfl, fun d hd => by omega⟩, ⟨by rw [e0]; rfl, by rw [e1]; rfl⟩, by rw [h6]; rfl, fun i hi => by omega⟩, fun r s h1 h2 _ => rfl⟩
  show bx 0 s = 0
  rw [bx_bt _ (by omega), b_0]
  rfl
theorem Inv_sim : ∃ Inv : ST → ST → Prop, Sim Inv ∧ Inv sX0 sM0 := ⟨InvW, ⟨fun _ _ h => h.rv, st_knot, st_road, st_bar, st_way, st_fees, st_drive, st_sight, st_drop, st_prices, st_spot, st_off, st_cost, st_laid, st_check, st_list, st_sure, st_toll, st_speed, st_against, st_count⟩, inv_start⟩
theorem whole_start {p : Program} {e : Env} {s : State} {m : MethodId} {below : List Frame} {meth : Method} {c : Code} (l : Launch) {b L : Nat} {xs : Nat → Int32} (hL : L ≤ 2560) (C0 : lw_At p s m meth c b L xs) : W p l e room_1 s m #[Value.ref b] below meth c s.heap [] 0 0 (lw_Z below #[Value.ref b] s) (entryFrame m ([Value.ref b] : List Value).toArray 4) := by
  obtain ⟨Inv, S, hI⟩ := Inv_sim
  exact whole_sim S hI l hL C0
