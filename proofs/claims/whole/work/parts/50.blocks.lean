/-! the standard blocks, both sides -/
theorem me_g (me : T_me) (g : Nat → Int32) : me_cells (me_cells_s me g) = g := Eq.trans rfl rfl
theorem me_gg (me : T_me) (g h : Nat → Int32) : me_cells_s (me_cells_s me g) h = me_cells_s me h := Eq.trans rfl rfl
theorem mr_g (mr : T_mr) (g : Nat → Int32) : mr_cells (mr_cells_s mr g) = g := Eq.trans rfl rfl
theorem mr_gg (mr : T_mr) (g h : Nat → Int32) : mr_cells_s (mr_cells_s mr g) h = mr_cells_s mr h := Eq.trans rfl rfl
theorem mr_gn (mr : T_mr) (g : Nat → Int32) : mr_now (mr_cells_s mr g) = mr_now mr := Eq.trans rfl rfl
theorem cell_nI {n : Nat} {me : T_me} {j : Nat} (h : j < 4096) : r_Me_cell n me (nI j) = some (me_cells me j) := by
  unfold r_Me_cell
  rw [if_neg (lt0 (by omega)), if_neg (by rw [i_le, nI_t (by omega)]; show ¬ (4096 : Int) ≤ _; omega), gr_nI h (by decide)]
theorem chg_nI {n : Nat} {me : T_me} {j : Nat} {v : Int32} (h : j < 4096) : r_Me_change n me (nI j) v = some (me_cells_s me (upd (me_cells me) j v)) := by
  unfold r_Me_change
  rw [if_neg (lt0 (by omega)), if_neg (by rw [i_le, nI_t (by omega)]; show ¬ (4096 : Int) ≤ _; omega), ga_nI h (by decide), nI_clamp (by omega)]
theorem upd_b {f : Nat → Int32} {b i j : Nat} {v : Int32} (h : i ≠ j) : upd f (b + i) v (b + j) = f (b + j) := upd_ne (by omega)
theorem nk (b : Nat) : nI b + (1 : Int32) = nI (b + 1) ∧ nI b + (2 : Int32) = nI (b + 2) ∧ nI b + (3 : Int32) = nI (b + 3) ∧ nI b + (4 : Int32) = nI (b + 4) ∧ nI b + (5 : Int32) = nI (b + 5) := ⟨nI_add b 1, nI_add b 2, nI_add b 3, nI_add b 4, nI_add b 5⟩
theorem fl0 (n : Nat) : r_Mo_truth n 0 = some 0 := Eq.trans rfl rfl
theorem fl1 (n : Nat) : r_Mo_truth n 1 = some 1 := Eq.trans rfl rfl
theorem pf_0 {n : Nat} {me : T_me} {j : Nat} (h : j < 4096) : r_Bl_putFlag n me (nI j) 0 = some (me_cells_s me (upd (me_cells me) j 0)) := by
  unfold r_Bl_putFlag; rw [if_pos rfl, chg_nI h]; rfl
theorem pf_1 {n : Nat} {me : T_me} {j : Nat} (h : j < 4096) : r_Bl_putFlag n me (nI j) 1 = some (me_cells_s me (upd (me_cells me) j 1)) := by
  unfold r_Bl_putFlag; rw [if_neg (by decide), chg_nI h]; rfl
theorem is_nI {n : Nat} {me : T_me} {j : Nat} (h : j < 4096) : r_Bl_isSet n me (nI j) = some (if me_cells me j = 0 then 0 else 1) := by
  unfold r_Bl_isSet; rw [cell_nI h, Option.bind_some]; split <;> rfl
/-- what a timer's time grows to -/
def grw (c3 now c5 sp : Int32) : Int32 := (if ((c3.toInt64 + now.toInt64) - c5.toInt64) < sp.toInt64 then ((c3.toInt64 + now.toInt64) - c5.toInt64) else sp.toInt64).toInt32
theorem grown_ok {n : Nat} {mr : T_mr} {b : Nat} {sp : Int32} (hb : b + 6 ≤ 4096) : r_Mo_grown n mr (nI b) sp = some (grw (mr_cells mr (b + 3)) (mr_now mr) (mr_cells mr (b + 5)) sp) := by
  unfold r_Mo_grown grw
  obtain ⟨-, -, e3, -, e5⟩ := nk b
  rw [e3, e5, gr_nI (by omega) (by decide), gr_nI (by omega) (by decide)]
  have es : ∀ x y z : Int64, x + (y - z) = x + y - z := fun x y z => by rw [Int64.sub_eq_add_neg, Int64.sub_eq_add_neg, Int64.add_assoc]
  rw [es]
  by_cases c : ((mr_cells mr (b + 3)).toInt64 + (mr_now mr).toInt64) - (mr_cells mr (b + 5)).toInt64 < sp.toInt64
  · rw [if_pos c, if_neg]; rw [lg_cmp_ge, Int64.le_iff_toInt_le]; rw [Int64.lt_iff_toInt_lt] at c; omega
  · rw [if_neg c, if_pos]; rw [lg_cmp_ge, Int64.le_iff_toInt_le]; rw [Int64.lt_iff_toInt_lt] at c; omega
/-- the same cells, and nothing else touched -/
def bE (b L : Nat) (f g g' : Nat → Int32) : Prop := (∀ j, j < 4096 → g j = g' j) ∧ ∀ j, ¬ (b ≤ j ∧ j < b + L) → g' j = f j
theorem bE_0 {b L : Nat} {f e : Nat → Int32} (h : ∀ j, j < 4096 → e j = f j) : bE b L f e f := ⟨h, fun _ _ => rfl⟩
theorem bE_u {b L : Nat} {f g g' : Nat → Int32} {i : Nat} {v : Int32} (hi : i < L) (h : bE b L f g g') : bE b L f (upd g (b + i) v) (upd g' (b + i) v) := by
  refine ⟨fun j hj => ?_, fun j hj => ?_⟩
  · unfold upd; rw [h.1 j hj]
  · rw [upd_ne (by omega)]; exact h.2 j hj
/-- two writes in the other order -/
theorem upd_sw {f : Nat → Int32} {i j : Nat} {v w : Int32} (h : i ≠ j) : upd (upd f i v) j w = upd (upd f j w) i v := by
  funext k; unfold upd; (repeat' split) <;> first | rfl | omega
theorem upd_id {f : Nat → Int32} {i : Nat} {v : Int32} (h : f i = v) : upd f i v = f := by
  funext k; unfold upd; split
  · rename_i c; rw [c, h]
  · rfl
theorem upd_uu {f : Nat → Int32} {i : Nat} {v w : Int32} : upd (upd f i v) i w = upd f i w := by
  funext k; unfold upd; split <;> rfl
theorem tr_id (n : Nat) {y : Int32} (h : y = 0 ∨ y = 1) : r_Mo_truth n y = some y := by
  unfold r_Mo_truth
  rcases h with h | h
  · rw [if_pos h, h]
  · rw [if_neg (by rw [h]; decide), h]
