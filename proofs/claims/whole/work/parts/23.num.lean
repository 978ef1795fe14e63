/-! truth values, longs -/
noncomputable def tv (P : Prop) : Int32 := @ite Int32 P (Classical.propDecidable P) 1 0
theorem tv_t {P : Prop} (h : P) : tv P = 1 := if_pos h
theorem tv_f {P : Prop} (h : ¬ P) : tv P = 0 := if_neg h
theorem tv_c {P Q : Prop} (h : P ↔ Q) : tv P = tv Q := by rw [propext h]
theorem tv_0 {P : Prop} : tv P = 0 ↔ ¬ P := ⟨fun h p => by rw [tv_t p] at h; exact absurd h (by decide), tv_f⟩
theorem tv_01 (P : Prop) : tv P = 0 ∨ tv P = 1 := by
  by_cases h : P
  · exact Or.inr (tv_t h)
  · exact Or.inl (tv_f h)
theorem tv_ite {α : Type} {P : Prop} {x y : α} : (if tv P = 0 then x else y) = @ite α P (Classical.propDecidable P) y x := by
  by_cases h : P
  · rw [if_pos h, if_neg]; rw [tv_t h]; decide
  · rw [if_neg h, if_pos (tv_f h)]
theorem gb_tv {α : Type} {P : Prop} {k : Option α} : gb (tv P) k = k := if_pos (tv_01 P)
theorem s1 {P : Prop} (h : P) : some (1 : Int32) = some (tv P) := by rw [tv_t h]
theorem s0 {P : Prop} (h : ¬ P) : some (0 : Int32) = some (tv P) := by rw [tv_f h]
theorem lc_lt {x y : Int64} : lg_cmp x y < 0 ↔ x.toInt < y.toInt := by
  rw [← Int64.lt_iff_toInt_lt]; unfold lg_cmp
  by_cases h1 : y < x
  · simp [h1]; exact Int64.le_of_lt h1
  · by_cases h2 : x = y
    · subst h2; simp
    · simp [h1, h2]; rw [Int64.lt_iff_toInt_lt]; rw [Int64.lt_iff_toInt_lt] at h1; have : x.toInt ≠ y.toInt := fun e => h2 (Int64.toInt_inj.mp e); omega
theorem lc_gt {x y : Int64} : 0 < lg_cmp x y ↔ y.toInt < x.toInt := by
  rw [← Int64.lt_iff_toInt_lt]; unfold lg_cmp
  by_cases h1 : y < x
  · simp [h1]
  · by_cases h2 : x = y
    · subst h2; simp
    · simp [h1, h2]
theorem lc_eq {x y : Int64} : lg_cmp x y = 0 ↔ x.toInt = y.toInt := by
  rw [Int64.toInt_inj]; unfold lg_cmp
  by_cases h1 : y < x
  · have : ¬ x = y := fun e => by subst e; rw [Int64.lt_iff_toInt_lt] at h1; omega
    simp [h1, this]
  · by_cases h2 : x = y
    · subst h2; simp
    · simp [h1, h2]
theorem lc_le {x y : Int64} : lg_cmp x y ≤ 0 ↔ x.toInt ≤ y.toInt := by
  have h1 := lc_gt (x := x) (y := y)
  rw [i_le]; rw [i_lt] at h1; have z : (0 : Int32).toInt = 0 := by decide
  omega
theorem lc_ge {x y : Int64} : 0 ≤ lg_cmp x y ↔ y.toInt ≤ x.toInt := by
  have h1 := lc_lt (x := x) (y := y)
  rw [i_le]; rw [i_lt] at h1; have z : (0 : Int32).toInt = 0 := by decide
  omega
theorem l_i (x : Int32) : x.toInt64.toInt = x.toInt := Int32.toInt_toInt64 x
theorem l_add {x y : Int64} (h1 : -9223372036854775808 ≤ x.toInt + y.toInt) (h2 : x.toInt + y.toInt < 9223372036854775808) : (x + y).toInt = x.toInt + y.toInt := by
  rw [Int64.toInt_add]; exact Int.bmod_eq_of_le (by omega) (by omega)
theorem l_sub {x y : Int64} (h1 : -9223372036854775808 ≤ x.toInt - y.toInt) (h2 : x.toInt - y.toInt < 9223372036854775808) : (x - y).toInt = x.toInt - y.toInt := by
  rw [Int64.toInt_sub]; exact Int.bmod_eq_of_le (by omega) (by omega)
theorem i_add {x y : Int32} (h1 : -2147483648 ≤ x.toInt + y.toInt) (h2 : x.toInt + y.toInt < 2147483648) : (x + y).toInt = x.toInt + y.toInt := by
  rw [Int32.toInt_add]; exact Int.bmod_eq_of_le (by omega) (by omega)
theorem i_sub {x y : Int32} (h1 : -2147483648 ≤ x.toInt - y.toInt) (h2 : x.toInt - y.toInt < 2147483648) : (x - y).toInt = x.toInt - y.toInt := by
  rw [Int32.toInt_sub]; exact Int.bmod_eq_of_le (by omega) (by omega)
theorem mo_isIn {n : Nat} {x lo hi : Int64} : r_Mo_isIn n x lo hi = some (tv (lo.toInt ≤ x.toInt ∧ x.toInt ≤ hi.toInt)) := by
  unfold r_Mo_isIn
  by_cases c1 : lg_cmp x lo < 0
  · rw [if_pos c1]; rw [lc_lt] at c1; exact s0 (by omega)
  · rw [if_neg c1]; rw [lc_lt] at c1
    by_cases c2 : 0 < lg_cmp x hi
    · rw [if_pos c2]; rw [lc_gt] at c2; exact s0 (by omega)
    · rw [if_neg c2]; rw [lc_gt] at c2; exact s1 (by omega)
theorem tv_not {P : Prop} : (if tv P = 0 then some (1 : Int32) else some (0 : Int32)) = some (tv (¬ P)) := by
  by_cases h : P
  · rw [if_neg (by rw [tv_t h]; decide), tv_f (fun q => q h)]
  · rw [if_pos (tv_f h), tv_t h]
