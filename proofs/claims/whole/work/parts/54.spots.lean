-- pure: lists by a test, and the ten nearest (own work)
def fl (f : Nat → Bool) : Nat → List Nat
  | 0 => []
  | n + 1 => if f n = true then fl f n ++ [n] else fl f n
theorem fl_mem {f : Nat → Bool} {n x : Nat} : x ∈ fl f n ↔ x < n ∧ f x = true := by
  induction n with
  | zero => simp [fl]
  | succ n ih =>
    unfold fl
    by_cases h : f n = true
    · rw [if_pos h, List.mem_append, ih, List.mem_singleton]
      constructor
      · rintro (⟨a, b⟩ | a)
        · exact ⟨by omega, b⟩
        · exact ⟨by omega, by rw [a]; exact h⟩
      · rintro ⟨a, b⟩
        by_cases e : x = n
        · exact Or.inr e
        · exact Or.inl ⟨by omega, b⟩
    · rw [if_neg h, ih]
      constructor
      · rintro ⟨a, b⟩; exact ⟨by omega, b⟩
      · rintro ⟨a, b⟩
        refine ⟨?_, b⟩
        by_cases e : x = n
        · subst e; exact absurd b h
        · omega
theorem fl_congr {f g : Nat → Bool} {n : Nat} (h : ∀ x, x < n → f x = g x) : fl f n = fl g n := by
  induction n with
  | zero => rfl
  | succ n ih => unfold fl; rw [h n (by omega), ih (fun x hx => h x (by omega))]
theorem fl_inc {f : Nat → Bool} {n : Nat} : (fl f n).Pairwise (· < ·) := by
  induction n with
  | zero => exact List.Pairwise.nil
  | succ n ih =>
    unfold fl
    split
    · rw [List.pairwise_append]
      refine ⟨ih, List.pairwise_singleton _ _, fun a ha b hb => ?_⟩
      rw [List.mem_singleton] at hb
      subst hb
      exact (fl_mem.mp ha).1
    · exact ih
theorem fl_lt {f : Nat → Bool} {n i j x y : Nat} (hij : i < j) (hi : (fl f n)[i]? = some x) (hj : (fl f n)[j]? = some y) : x < y := by
  have h := @fl_inc f n
  rw [List.pairwise_iff_getElem] at h
  obtain ⟨a, ha⟩ := List.getElem?_eq_some_iff.mp hi
  obtain ⟨b, hb⟩ := List.getElem?_eq_some_iff.mp hj
  have := h i j a b hij
  omega
theorem fl_at {f : Nat → Bool} {n i x : Nat} (hi : (fl f n)[i]? = some x) : x < n ∧ f x = true := fl_mem.mp (List.mem_of_getElem? hi)
theorem fl_idx {f : Nat → Bool} {n i j x : Nat} (hi : (fl f n)[i]? = some x) (hj : (fl f n)[j]? = some x) : i = j := by
  rcases (show i < j ∨ i = j ∨ j < i by omega) with h | h | h
  · have := fl_lt h hi hj; omega
  · exact h
  · have := fl_lt h hj hi; omega
theorem fl_del {f : Nat → Bool} {x : Nat} : ∀ {n i : Nat}, (fl f n)[i]? = some x → fl (va_up f x false) n = (fl f n).eraseIdx i := by
  intro n
  induction n with
  | zero => intro i h; simp [fl] at h
  | succ n ih =>
    intro i h
    have hx := (fl_at h).1
    by_cases hf : f n = true
    · have e : fl f (n + 1) = fl f n ++ [n] := if_pos hf
      rw [e] at h ⊢
      by_cases hi : i < (fl f n).length
      · rw [List.getElem?_append_left hi] at h
        have hxn := (fl_at h).1
        rw [List.eraseIdx_append_of_lt_length hi, ← ih h]
        show (if va_up f x false n = true then _ else _) = _
        rw [upc_n _ _ (by omega), if_pos hf]
      · rw [List.getElem?_append_right (by omega)] at h
        have hi2 : i - (fl f n).length = 0 := by
          by_cases z : i - (fl f n).length = 0
          · exact z
          · rw [List.getElem?_eq_none (by simp; omega)] at h; cases h
        rw [hi2] at h
        simp at h
        subst h
        rw [List.eraseIdx_append_of_length_le (by omega), hi2]
        show (if va_up f n false n = true then _ else _) = _
        rw [upc_s, if_neg (by decide)]
        simp
        exact fl_congr (fun y hy => upc_n _ _ (by omega))
    · have e : fl f (n + 1) = fl f n := if_neg hf
      rw [e] at h ⊢
      rw [← ih h]
      have hxn := (fl_at h).1
      show (if va_up f x false n = true then _ else _) = _
      rw [upc_n _ _ (by omega), if_neg hf]
theorem len_le_of_sub : ∀ (l m : List Nat), l.Pairwise (· < ·) → (∀ x, x ∈ l → x ∈ m) → l.length ≤ m.length := by
  intro l
  induction l with
  | nil => intro m _ _; exact Nat.zero_le _
  | cons a l ih =>
    intro m hp hs
    have ha : a ∈ m := hs a (List.mem_cons_self ..)
    have hpp := List.pairwise_cons.mp hp
    have h1 := ih (m.erase a) hpp.2 (fun x hx => by
      have hne : x ≠ a := by have := hpp.1 x hx; omega
      exact (List.mem_erase_of_ne hne).mpr (hs x (List.mem_cons_of_mem _ hx)))
    rw [List.length_erase_of_mem ha] at h1
    have : 0 < m.length := List.length_pos_of_mem ha
    simp
    omega
/-- q comes ahead of p -/
def nearer (o : Nat → Nat) (q p : Nat) : Prop := o q < o p ∨ (o q = o p ∧ q < p)
def nearB (o : Nat → Nat) (q p : Nat) : Bool := decide (o q < o p) || (decide (o q = o p) && decide (q < p))
theorem nearB_iff {o : Nat → Nat} {q p : Nat} : nearB o q p = true ↔ nearer o q p := by
  unfold nearB nearer
  simp
/-- the test for a spot: t may be one (no tunnel), near enough, and fewer than ten ahead -/
def spB (t : Nat → Bool) (o : Nat → Nat) (b n p : Nat) : Bool := t p && decide (o p ≤ b) && decide ((fl (fun q => t q && nearB o q p) n).length < 10)
/-- the class's list, with P points looked at -/
def TX (t : Nat → Bool) (o : Nat → Nat) (b : Nat) (f : Nat → Bool) (P : Nat) : Prop :=
  (∀ x, f x = true → x < P ∧ t x = true ∧ o x ≤ b) ∧
  (((fl f P).length < 10 ∧ ∀ x, x < P → t x = true → o x ≤ b → f x = true) ∨ ((fl f P).length = 10 ∧ ∀ x, x < P → t x = true → o x ≤ b → f x = false → ∀ y, f y = true → nearer o y x))
theorem TX_zero (t : Nat → Bool) (o : Nat → Nat) (b : Nat) : TX t o b (fun _ => false) 0 := ⟨fun x h => (by cases h), Or.inl ⟨by decide, fun x h => by omega⟩⟩
theorem fl_app {f : Nat → Bool} {P : Nat} (hf : ∀ x, f x = true → x < P) : fl (va_up f P true) (P + 1) = fl f P ++ [P] := by
  show (if va_up f P true P = true then _ else _) = _
  rw [upc_s, if_pos rfl, fl_congr (f := va_up f P true) (g := f) (fun x hx => upc_n _ _ (by omega))]
theorem fl_skip {f : Nat → Bool} {P : Nat} (hf : ∀ x, f x = true → x < P) : fl f (P + 1) = fl f P := if_neg (fun h => by have := hf P h; omega)
theorem TX_skip {t : Nat → Bool} {o : Nat → Nat} {b P : Nat} {f : Nat → Bool} (h : TX t o b f P) (hn : ¬ (t P = true ∧ o P ≤ b)) : TX t o b f (P + 1) := by
  obtain ⟨h1, h2⟩ := h
  refine ⟨fun x hx => ⟨by have := (h1 x hx).1; omega, (h1 x hx).2⟩, ?_⟩
  rw [fl_skip (fun x hx => (h1 x hx).1)]
  rcases h2 with ⟨a, c⟩ | ⟨a, c⟩
  · refine Or.inl ⟨a, fun x hx ht ho => ?_⟩
    by_cases e : x = P
    · subst e; exact absurd ⟨ht, ho⟩ hn
    · exact c x (by omega) ht ho
  · refine Or.inr ⟨a, fun x hx ht ho hf y hy => ?_⟩
    by_cases e : x = P
    · subst e; exact absurd ⟨ht, ho⟩ hn
    · exact c x (by omega) ht ho hf y hy
theorem TX_add {t : Nat → Bool} {o : Nat → Nat} {b P : Nat} {f : Nat → Bool} (h : TX t o b f P) (hP : t P = true ∧ o P ≤ b) (hl : (fl f P).length < 10) : TX t o b (va_up f P true) (P + 1) := by
  obtain ⟨h1, h2⟩ := h
  have hall : ∀ x, x < P → t x = true → o x ≤ b → f x = true := by
    rcases h2 with ⟨a, c⟩ | ⟨a, c⟩
    · exact c
    · omega
  have hup : ∀ x, x < P + 1 → t x = true → o x ≤ b → va_up f P true x = true := fun x hx ht ho => by
    by_cases e : x = P
    · subst e; rw [upc_s]
    · rw [upc_n _ _ e]; exact hall x (by omega) ht ho
  refine ⟨fun x hx => ?_, ?_⟩
  · by_cases e : x = P
    · subst e; exact ⟨by omega, hP⟩
    · rw [upc_n _ _ e] at hx
      exact ⟨by have := (h1 x hx).1; omega, (h1 x hx).2⟩
  · rw [fl_app (fun x hx => (h1 x hx).1), List.length_append]
    simp only [List.length_singleton]
    by_cases e : (fl f P).length + 1 < 10
    · exact Or.inl ⟨e, hup⟩
    · exact Or.inr ⟨by omega, fun x hx ht ho hf => by rw [hup x hx ht ho] at hf; cases hf⟩
theorem TX_full {t : Nat → Bool} {o : Nat → Nat} {b P w : Nat} {f : Nat → Bool} (h : TX t o b f P) (hP : t P = true ∧ o P ≤ b) (hl : (fl f P).length = 10) (hw : f w = true) (hmax : ∀ y, f y = true → y = w ∨ nearer o y w) : (o w ≤ o P → TX t o b f (P + 1)) ∧ (o P < o w → TX t o b (va_up (va_up f w false) P true) (P + 1)) := by
  obtain ⟨h1, h2⟩ := h
  have hbeh : ∀ x, x < P → t x = true → o x ≤ b → f x = false → ∀ y, f y = true → nearer o y x := by
    rcases h2 with ⟨a, c⟩ | ⟨a, c⟩
    · omega
    · exact c
  refine ⟨fun hle => ⟨fun x hx => ⟨by have := (h1 x hx).1; omega, (h1 x hx).2⟩, Or.inr ⟨by rw [fl_skip (fun x hx => (h1 x hx).1)]; exact hl, fun x hx ht ho hf y hy => ?_⟩⟩, fun hlt => ⟨fun x hx => ?_, Or.inr ⟨?_, fun x hx ht ho hf y hy => ?_⟩⟩⟩
  · by_cases e : x = P
    · subst e
      have := (h1 y hy).1
      unfold nearer at *
      rcases hmax y hy with z | z
      · subst z; omega
      · omega
    · exact hbeh x (by omega) ht ho hf y hy
  · by_cases e : x = P
    · subst e; exact ⟨by omega, hP⟩
    · rw [upc_n _ _ e] at hx
      by_cases e2 : x = w
      · subst e2; rw [upc_s] at hx; cases hx
      · rw [upc_n _ _ e2] at hx
        exact ⟨by have := (h1 x hx).1; omega, (h1 x hx).2⟩
  · have hwP := (h1 w hw).1
    obtain ⟨i, hi⟩ := List.getElem?_of_mem (fl_mem.mpr ⟨hwP, hw⟩)
    rw [fl_app (fun x hx => by
      by_cases e2 : x = w
      · subst e2; rw [upc_s] at hx; cases hx
      · rw [upc_n _ _ e2] at hx; exact (h1 x hx).1), fl_del hi, List.length_append, List.length_eraseIdx]
    have : i < (fl f P).length := (List.getElem?_eq_some_iff.mp hi).1
    rw [if_pos this]
    simp
    omega
  · -- x is out, y is in
    have hwP := (h1 w hw).1
    have hxP : x ≠ P := fun e => by subst e; rw [upc_s] at hf; cases hf
    rw [upc_n _ _ hxP] at hf
    -- every one that stood in the list is ahead of x, or x is w
    have key : x = w ∨ (nearer o w x ∧ ∀ y, f y = true → nearer o y x) := by
      by_cases e : x = w
      · exact Or.inl e
      · rw [upc_n _ _ e] at hf
        have := hbeh x (by omega) ht ho hf
        exact Or.inr ⟨this w hw, this⟩
    by_cases hyP : y = P
    · subst hyP
      rcases key with e | ⟨e, -⟩
      · subst e; exact Or.inl hlt
      · left
        unfold nearer at e
        omega
    · rw [upc_n _ _ hyP] at hy
      by_cases e2 : y = w
      · subst e2; rw [upc_s] at hy; cases hy
      · rw [upc_n _ _ e2] at hy
        rcases key with e | ⟨-, e⟩
        · subst e
          rcases hmax y hy with z | z
          · exact absurd z e2
          · exact z
        · exact e y hy
theorem TX_end {t : Nat → Bool} {o : Nat → Nat} {b n : Nat} {f : Nat → Bool} (h : TX t o b f n) : fl f n = fl (spB t o b n) n := by
  obtain ⟨h1, h2⟩ := h
  refine fl_congr (fun x hx => ?_)
  by_cases hf : f x = true
  · rw [hf]
    obtain ⟨-, a, c⟩ := h1 x hf
    symm
    unfold spB
    simp only [Bool.and_eq_true, decide_eq_true_eq]
    refine ⟨⟨a, c⟩, ?_⟩
    obtain ⟨i, hi⟩ := List.getElem?_of_mem (fl_mem.mpr ⟨hx, hf⟩)
    have hlen : i < (fl f n).length := (List.getElem?_eq_some_iff.mp hi).1
    have hsub := len_le_of_sub (fl (fun q => t q && nearB o q x) n) ((fl f n).eraseIdx i) fl_inc (fun y hy => by
      rw [fl_mem] at hy
      simp only [Bool.and_eq_true, nearB_iff] at hy
      obtain ⟨y1, y2, y3⟩ := hy
      rw [← fl_del hi, fl_mem]
      have hyx : y ≠ x := fun e => by subst e; unfold nearer at y3; omega
      refine ⟨y1, ?_⟩
      rw [upc_n _ _ hyx]
      have hyb : o y ≤ b := by unfold nearer at y3; omega
      rcases h2 with ⟨_, d⟩ | ⟨_, d⟩
      · exact d y y1 y2 hyb
      · cases hfy : f y with
        | true => rfl
        | false =>
          have := d y y1 y2 hyb hfy x hf
          unfold nearer at this y3
          omega)
    rw [List.length_eraseIdx, if_pos hlen] at hsub
    rcases h2 with ⟨d, _⟩ | ⟨d, _⟩ <;> omega
  · have hf' : f x = false := by cases h : f x with
      | true => exact absurd h hf
      | false => rfl
    rw [hf']
    symm
    unfold spB
    by_cases hP : t x = true ∧ o x ≤ b
    · rcases h2 with ⟨_, d⟩ | ⟨d1, d⟩
      · rw [d x hx hP.1 hP.2] at hf'; cases hf'
      · have hb := d x hx hP.1 hP.2 hf'
        have hsub := len_le_of_sub (fl f n) (fl (fun q => t q && nearB o q x) n) fl_inc (fun y hy => by
          rw [fl_mem] at hy ⊢
          refine ⟨hy.1, ?_⟩
          simp only [Bool.and_eq_true, nearB_iff]
          exact ⟨(h1 y hy.2).2.1, hb y hy.2⟩)
        rw [d1] at hsub
        rw [show decide ((fl (fun q => t q && nearB o q x) n).length < 10) = false from decide_eq_false (by omega), Bool.and_false]
    · cases ht : t x with
      | false => rfl
      | true =>
        rw [decide_eq_false (fun e => hP ⟨ht, e⟩)]
        rfl
theorem sp_len {t : Nat → Bool} {o : Nat → Nat} {b n : Nat} {f : Nat → Bool} (h : TX t o b f n) : (fl f n).length ≤ 10 := by
  rcases h.2 with ⟨a, _⟩ | ⟨a, _⟩ <;> omega
/-- such a list can always be had -/
theorem TX_exists (t : Nat → Bool) (o : Nat → Nat) (b : Nat) : ∀ n, ∃ f, TX t o b f n := by
  intro n
  induction n with
  | zero => exact ⟨_, TX_zero t o b⟩
  | succ n ih =>
    obtain ⟨f, h⟩ := ih
    by_cases hn : t n = true ∧ o n ≤ b
    · by_cases hl : (fl f n).length < 10
      · exact ⟨_, TX_add h hn hl⟩
      · have hl2 : (fl f n).length = 10 := by have := sp_len h; omega
        have worst : ∀ m, m ≤ n → (∃ x, x < m ∧ f x = true) → ∃ w, w < m ∧ f w = true ∧ ∀ y, y < m → f y = true → y = w ∨ nearer o y w := by
          intro m
          induction m with
          | zero => rintro _ ⟨x, hx, _⟩; omega
          | succ m ihm =>
            intro hm hx
            by_cases hfm : f m = true
            · by_cases hex : ∃ x, x < m ∧ f x = true
              · obtain ⟨w, w1, w2, w3⟩ := ihm (by omega) hex
                by_cases hc : o w ≤ o m
                · refine ⟨m, by omega, hfm, fun y hy hfy => ?_⟩
                  by_cases e : y = m
                  · exact Or.inl e
                  · right
                    rcases w3 y (by omega) hfy with z | z
                    · subst z; unfold nearer; omega
                    · unfold nearer at *; omega
                · refine ⟨w, by omega, w2, fun y hy hfy => ?_⟩
                  by_cases e : y = m
                  · subst e; right; unfold nearer; omega
                  · exact w3 y (by omega) hfy
              · refine ⟨m, by omega, hfm, fun y hy hfy => ?_⟩
                by_cases e : y = m
                · exact Or.inl e
                · exact absurd ⟨y, by omega, hfy⟩ hex
            · obtain ⟨x, x1, x2⟩ := hx
              have hxm : x ≠ m := fun e => by subst e; exact hfm x2
              obtain ⟨w, w1, w2, w3⟩ := ihm (by omega) ⟨x, by omega, x2⟩
              refine ⟨w, by omega, w2, fun y hy hfy => ?_⟩
              by_cases e : y = m
              · subst e; exact absurd hfy hfm
              · exact w3 y (by omega) hfy
        have hne : ∃ x, x < n ∧ f x = true := by
          obtain ⟨x, hx⟩ := List.exists_mem_of_length_pos (show 0 < (fl f n).length by omega)
          exact ⟨x, fl_mem.mp hx⟩
        obtain ⟨w, w1, w2, w3⟩ := worst n (Nat.le_refl n) hne
        obtain ⟨g1, g2⟩ := TX_full h hn hl2 w2 (fun y hy => w3 y (h.1 y hy).1 hy)
        by_cases hc : o w ≤ o n
        · exact ⟨_, g1 hc⟩
        · exact ⟨_, g2 (by omega)⟩
    · exact ⟨f, TX_skip h hn⟩
theorem spB_len (t : Nat → Bool) (o : Nat → Nat) (b n : Nat) : (fl (spB t o b n) n).length ≤ 10 := by
  obtain ⟨f, h⟩ := TX_exists t o b n
  rw [← TX_end h]; exact sp_len h
/-- the spots of sight s of drive d -/
def tnB (N : NET) (p : Nat) : Bool := decide (nkd N (p / 5) ≠ 2)
def spL (N : NET) (A : AS) (d s : Nat) : List Nat := fl (spB (tnB N) (ofD N A d s) (A (40 + d) s * A (40 + d) s) (5 * nR N)) (5 * nR N)
theorem spL_len (N : NET) (A : AS) (d s : Nat) : (spL N A d s).length ≤ 10 := spB_len _ _ _ _
theorem spL_lt {N : NET} {A : AS} {d s x : Nat} (h : x ∈ spL N A d s) : x < 5 * nR N := (fl_mem.mp h).1
theorem spL_off {N : NET} {A : AS} {d s x : Nat} (h : x ∈ spL N A d s) : ofD N A d s x ≤ A (40 + d) s * A (40 + d) s := by
  have := (fl_mem.mp h).2
  unfold spB at this
  simp only [Bool.and_eq_true, decide_eq_true_eq] at this
  exact this.1.2
