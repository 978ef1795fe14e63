theorem w16_eq (x : Int32) : x.toInt16.toInt32 = (x <<< ((16 : Int32) &&& 31)) >>> ((16 : Int32) &&& 31) := by
  apply Int32.toBitVec_inj.mp
  have e : ((16 : Int32) &&& 31) = 16 := by decide
  rw [e, Int32.toBitVec_shiftRight, Int32.toBitVec_shiftLeft]
  have e2 : (16 : Int32).toBitVec.smod 32 = 16#32 := by decide
  rw [e2]
  show (x.toBitVec.signExtend 16).signExtend 32 = (x.toBitVec <<< 16).sshiftRight 16
  apply BitVec.eq_of_getLsbD_eq
  intro i hi
  rw [BitVec.getLsbD_signExtend, BitVec.getLsbD_sshiftRight]
  by_cases c : i < 16
  · have c2 : 16 + i < 32 := by omega
    have c3 : ¬ (32 ≤ i) := by omega
    have c4 : ¬ (16 + i < 16) := by omega
    simp only [c, c2, c3, hi, if_true, decide_true, decide_false, Bool.true_and, Bool.not_false, BitVec.getLsbD_signExtend, BitVec.getLsbD_shiftLeft, c4, Bool.not_false, show i < 32 from hi]
    simp
  · have c2 : ¬ 16 + i < 32 := by omega
    have c3 : ¬ (32 ≤ i) := by omega
    simp only [c, c2, c3, hi, if_false, decide_true, decide_false, Bool.true_and, Bool.not_false, BitVec.msb_eq_getLsbD_last, BitVec.getLsbD_signExtend, BitVec.getLsbD_shiftLeft]
    simp
theorem ushr_eq (x : Int32) {y : Int32} (h0 : 0 ≤ y.toInt) (h1 : y.toInt ≤ 15) : ((x &&& (65535 : Int32)).toUInt32 >>> (y.toUInt32 &&& Int32.toUInt32 31)).toInt32 = (x &&& (65535 : Int32)) >>> (y &&& 31) := by
  apply Int32.toBitVec_inj.mp
  have key : ∀ j, j < 16 → ((nI j &&& 31).toBitVec.smod 32 = BitVec.ofNat 32 j) ∧ (((nI j).toUInt32 &&& Int32.toUInt32 31).toBitVec % 32 = BitVec.ofNat 32 j) := by decide
  have ey : y = nI y.toInt.toNat := i_nat h0
  have hj : y.toInt.toNat < 16 := by omega
  rw [ey]
  generalize y.toInt.toNat = j at hj
  obtain ⟨k1, k2⟩ := key j hj
  rw [Int32.toBitVec_shiftRight, k1]
  show ((x &&& (65535 : Int32)).toUInt32 >>> ((nI j).toUInt32 &&& Int32.toUInt32 31)).toBitVec = _
  rw [UInt32.toBitVec_shiftRight, k2]
  show (x &&& (65535 : Int32)).toBitVec >>> (BitVec.ofNat 32 j) = (x &&& (65535 : Int32)).toBitVec.sshiftRight (BitVec.ofNat 32 j).toNat
  rw [BitVec.sshiftRight_eq_of_msb_false]
  · rfl
  · rw [Int32.toBitVec_and, BitVec.msb_and]
    have : (65535 : Int32).toBitVec.msb = false := by decide
    rw [this, Bool.and_false]
theorem ex_nI {a : Int32} {m : Nat} (h0 : 0 ≤ a.toInt) (h1 : a.toInt < m) : ∃ j : Nat, j < m ∧ a = nI j := ⟨a.toInt.toNat, by omega, i_nat h0⟩
theorem fl_tr (n : Nat) (x : Int32) : r_Re_flag n x = r_Mo_truth n x := rfl
theorem na_w (n : Nat) (x : Int32) : r_Re_narrow n x = r_Mo_w16 n x := by unfold r_Re_narrow r_Mo_w16; rw [w16_eq]
theorem sh_16 {n : Nat} {a x y : Int32} : r_Re_ofShifts n a x y = r_Re_ofShifts_j31 n a x y (tv (0 ≤ y.toInt ∧ y.toInt ≤ 15)) (tv (0 ≤ y.toInt ∧ y.toInt ≤ 31)) := by
  unfold r_Re_ofShifts r_Re_ofShifts_j14 r_Re_ofShifts_j15 r_Re_ofShifts_j30
  by_cases c1 : y < 0
  · rw [if_pos c1, if_pos c1]; rw [i_lt, k0] at c1; rw [tv_f (by omega), tv_f (by omega)]
  rw [if_neg c1, if_neg c1]
  by_cases c2 : (16 : Int32) ≤ y
  · rw [if_pos c2]
    by_cases c3 : (32 : Int32) ≤ y
    · rw [if_pos c3]; rw [i_le, k16] at c2; rw [i_le, k32] at c3; rw [tv_f (by omega), tv_f (by omega)]
    · rw [if_neg c3]; rw [i_lt, k0] at c1; rw [i_le, k16] at c2; rw [i_le, k32] at c3; rw [tv_f (by omega), tv_t (by omega)]
  · rw [if_neg c2]
    have c3 : ¬ (32 : Int32) ≤ y := by rw [i_le, k16] at c2; rw [i_le, k32]; omega
    rw [if_neg c1, if_neg c3]; rw [i_lt, k0] at c1; rw [i_le, k16] at c2; rw [tv_t (by omega), tv_t (by omega)]
theorem sh_if {α : Type} {y m : Int32} {A B : α} (hm : 0 ≤ m.toInt) : (if tv (0 ≤ y.toInt ∧ y.toInt ≤ m.toInt) = 0 then A else B) = if y < 0 then A else if y ≤ m then B else A := by
  by_cases c1 : y < 0
  · rw [if_pos c1]; rw [i_lt, k0] at c1; rw [if_pos (tv_f (by omega))]
  rw [if_neg c1]; rw [i_lt, k0] at c1
  by_cases c2 : y ≤ m
  · rw [if_pos c2]; rw [i_le] at c2; rw [if_neg (by rw [tv_t (by omega)]; decide)]
  · rw [if_neg c2]; rw [i_le] at c2; rw [if_pos (tv_f (by omega))]
theorem two_ok {n : Nat} {a x y : Int32} (h0 : 0 ≤ a.toInt) (h1 : a.toInt < 25) (hz : (a = 3 ∨ a = 4 ∨ a = 8 ∨ a = 9) → y ≠ 0) : r_Re_ofTwo n a x y = r_Mo_two n a x y := by
  obtain ⟨j, hj, rfl⟩ := ex_nI (m := 25) h0 h1
  have p15 := fun (α : Type) (A B : α) => sh_if (α := α) (y := y) (m := 15) (A := A) (B := B) (by decide)
  have p31 := fun (α : Type) (A B : α) => sh_if (α := α) (y := y) (m := 31) (A := A) (B := B) (by decide)
  rw [k15] at p15
  rw [show (31 : Int32).toInt = 31 by decide] at p31
  match j, hj with
  | 0, _ => show r_Re_ofTwo n 0 x y = r_Mo_two n 0 x y; simp (config := {decide := true}) only [r_Re_ofTwo, r_Mo_two, r_Re_ofArithmetic, if_true, if_false, Option.bind_some, na_w]
  | 1, _ => show r_Re_ofTwo n 1 x y = r_Mo_two n 1 x y; simp (config := {decide := true}) only [r_Re_ofTwo, r_Mo_two, r_Re_ofArithmetic, if_true, if_false, Option.bind_some, na_w]
  | 2, _ => show r_Re_ofTwo n 2 x y = r_Mo_two n 2 x y; simp (config := {decide := true}) only [r_Re_ofTwo, r_Mo_two, r_Re_ofArithmetic, if_true, if_false, Option.bind_some, na_w]
  | 3, _ => have z := hz (Or.inl rfl); show r_Re_ofTwo n 3 x y = r_Mo_two n 3 x y; simp (config := {decide := true}) only [r_Re_ofTwo, r_Mo_two, r_Re_ofArithmetic, gz, z, if_true, if_false, Option.bind_some, na_w]
  | 4, _ => have z := hz (Or.inr (Or.inl rfl)); show r_Re_ofTwo n 4 x y = r_Mo_two n 4 x y; simp (config := {decide := true}) only [r_Re_ofTwo, r_Mo_two, r_Re_ofArithmetic, gz, z, if_true, if_false, Option.bind_some, na_w]
  | 5, _ => show r_Re_ofTwo n 5 x y = r_Mo_two n 5 x y; simp (config := {decide := true}) only [r_Re_ofTwo, r_Mo_two, r_Re_ofArithmetic, if_true, if_false, Option.bind_some]
  | 6, _ => show r_Re_ofTwo n 6 x y = r_Mo_two n 6 x y; simp (config := {decide := true}) only [r_Re_ofTwo, r_Mo_two, r_Re_ofArithmetic, if_true, if_false, Option.bind_some]
  | 7, _ => show r_Re_ofTwo n 7 x y = r_Mo_two n 7 x y; simp (config := {decide := true}) only [r_Re_ofTwo, r_Mo_two, r_Re_ofArithmetic, if_true, if_false, Option.bind_some]
  | 8, _ => have z := hz (Or.inr (Or.inr (Or.inl rfl))); show r_Re_ofTwo n 8 x y = r_Mo_two n 8 x y; simp (config := {decide := true}) only [r_Re_ofTwo, r_Mo_two, r_Re_ofArithmetic, gz, z, if_true, if_false, Option.bind_some]
  | 9, _ => have z := hz (Or.inr (Or.inr (Or.inr rfl))); show r_Re_ofTwo n 9 x y = r_Mo_two n 9 x y; simp (config := {decide := true}) only [r_Re_ofTwo, r_Mo_two, r_Re_ofArithmetic, gz, z, if_true, if_false, Option.bind_some]
  | 10, _ => show r_Re_ofTwo n 10 x y = r_Mo_two n 10 x y; simp (config := {decide := true}) only [r_Re_ofTwo, r_Mo_two, r_Re_ofBitsAndOrder, if_true, if_false, Option.bind_some]
  | 11, _ => show r_Re_ofTwo n 11 x y = r_Mo_two n 11 x y; simp (config := {decide := true}) only [r_Re_ofTwo, r_Mo_two, r_Re_ofBitsAndOrder, if_true, if_false, Option.bind_some]
  | 12, _ => show r_Re_ofTwo n 12 x y = r_Mo_two n 12 x y; simp (config := {decide := true}) only [r_Re_ofTwo, r_Mo_two, r_Re_ofBitsAndOrder, if_true, if_false, Option.bind_some]
  | 13, _ => show r_Re_ofTwo n 13 x y = r_Mo_two n 13 x y; simp (config := {decide := true}) only [r_Re_ofTwo, r_Mo_two, r_Re_ofBitsAndOrder, fl_tr, if_true, if_false, Option.bind_some]; split <;> rfl
  | 14, _ => show r_Re_ofTwo n 14 x y = r_Mo_two n 14 x y; simp (config := {decide := true}) only [r_Re_ofTwo, r_Mo_two, r_Re_ofBitsAndOrder, fl_tr, if_true, if_false, Option.bind_some]; split <;> rfl
  | 15, _ => show r_Re_ofTwo n 15 x y = r_Mo_two n 15 x y; simp (config := {decide := true}) only [r_Re_ofTwo, r_Mo_two, r_Re_ofBitsAndOrder, fl_tr, if_true, if_false, Option.bind_some]; split <;> rfl
  | 16, _ => show r_Re_ofTwo n 16 x y = r_Mo_two n 16 x y; simp (config := {decide := true}) only [r_Re_ofTwo, r_Mo_two, r_Re_ofBitsAndOrder, fl_tr, if_true, if_false, Option.bind_some]; split <;> rfl
  | 17, _ => show r_Re_ofTwo n 17 x y = r_Mo_two n 17 x y; simp (config := {decide := true}) only [r_Re_ofTwo, r_Mo_two, r_Re_ofBitsAndOrder, fl_tr, if_true, if_false, Option.bind_some]; split <;> rfl
  | 18, _ => show r_Re_ofTwo n 18 x y = r_Mo_two n 18 x y; simp (config := {decide := true}) only [r_Re_ofTwo, r_Mo_two, r_Re_ofBitsAndOrder, fl_tr, if_true, if_false, Option.bind_some]; split <;> rfl
  | 19, _ => show r_Re_ofTwo n 19 x y = r_Mo_two n 19 x y; simp (config := {decide := true}) only [r_Re_ofTwo, r_Mo_two, sh_16, r_Re_ofShifts_j31, p15, na_w, if_true, if_false, Option.bind_some]; (repeat' split) <;> rfl
  | 20, _ =>
    show r_Re_ofTwo n 20 x y = r_Mo_two n 20 x y
    simp (config := {decide := true}) only [r_Re_ofTwo, r_Mo_two, sh_16, r_Re_ofShifts_j31, p15, na_w, if_true, if_false, Option.bind_some]
    by_cases c1 : y < 0
    · rw [if_pos c1, if_pos c1]; rfl
    rw [if_neg c1, if_neg c1]
    by_cases c2 : y ≤ 15
    · rw [if_pos c2, if_pos c2]; rw [i_lt, k0] at c1; rw [i_le, k15] at c2; rw [ushr_eq x (by omega) c2]; rfl
    · rw [if_neg c2, if_neg c2]; rfl
  | 21, _ => show r_Re_ofTwo n 21 x y = r_Mo_two n 21 x y; simp (config := {decide := true}) only [r_Re_ofTwo, r_Mo_two, sh_16, r_Re_ofShifts_j31, p31, if_true, if_false, Option.bind_some]; (repeat' split) <;> rfl
  | 22, _ => show r_Re_ofTwo n 22 x y = r_Mo_two n 22 x y; simp (config := {decide := true}) only [r_Re_ofTwo, r_Mo_two, sh_16, r_Re_ofShifts_j31, p31, if_true, if_false, Option.bind_some]; (repeat' split) <;> rfl
  | 23, _ =>
    show r_Re_ofTwo n 23 x y = r_Mo_two n 23 x y
    simp (config := {decide := true}) only [r_Re_ofTwo, r_Mo_two, sh_16, r_Re_ofShifts_j31, if_true, if_false, Option.bind_some]
    by_cases c1 : y < x
    · rw [if_pos c1]; rw [i_lt] at c1; rw [if_pos (by rw [i_le]; omega)]
    · rw [if_neg c1]; rw [i_lt] at c1
      by_cases c2 : y ≤ x
      · rw [if_pos c2]; rw [i_le] at c2; rw [show x = y by rw [i_eq]; omega]
      · rw [if_neg c2]
  | 24, _ =>
    show r_Re_ofTwo n 24 x y = r_Mo_two n 24 x y
    simp (config := {decide := true}) only [r_Re_ofTwo, r_Mo_two, sh_16, r_Re_ofShifts_j31, if_true, if_false, Option.bind_some]
    by_cases c1 : x < y
    · rw [if_pos c1]; rw [i_lt] at c1; rw [if_pos (by rw [i_le]; omega)]
    · rw [if_neg c1]; rw [i_lt] at c1
      by_cases c2 : x ≤ y
      · rw [if_pos c2]; rw [i_le] at c2; rw [show x = y by rw [i_eq]; omega]
      · rw [if_neg c2]
  | j + 25, h => exact absurd h (by omega)
theorem one_ok {n : Nat} {a x : Int32} : r_Re_ofOne n a x = r_Mo_one n a x := by
  unfold r_Re_ofOne r_Mo_one
  simp only [na_w, fl_tr]
theorem tr_some (n : Nat) (x : Int32) : ∃ v, r_Mo_truth n x = some v := by unfold r_Mo_truth; split <;> exact ⟨_, rfl⟩
theorem bs_some {x : Option Int32} (h : ∃ v, x = some v) : ∃ v, (x.bind fun q => some q) = some v := by obtain ⟨v, rfl⟩ := h; exact ⟨v, rfl⟩
theorem one_some (n : Nat) (a x : Int32) : ∃ v, r_Mo_one n a x = some v := by
  unfold r_Mo_one
  (repeat' split) <;> first | exact ⟨_, rfl⟩ | exact bs_some (tr_some _ _)
theorem ite_some {p : Prop} [Decidable p] {A B : Option Int32} (h1 : ∃ v, A = some v) (h2 : ∃ v, B = some v) : ∃ v, (if p then A else B) = some v := by split <;> assumption
theorem two_some {n : Nat} {a x y : Int32} (hz : (a = 3 ∨ a = 4 ∨ a = 8 ∨ a = 9) → y ≠ 0) : ∃ v, r_Mo_two n a x y = some v := by
  by_cases c : a = 3 ∨ a = 4 ∨ a = 8 ∨ a = 9
  · have gzs : ∀ k : Option Int32, gz y k = k := fun k => if_neg (hz c)
    rcases c with rfl | rfl | rfl | rfl <;> simp (config := {decide := true}) only [r_Mo_two, gzs, if_true, if_false] <;> exact ⟨_, rfl⟩
  · have c3 : ¬ a = 3 := fun z => c (Or.inl z)
    have c4 : ¬ a = 4 := fun z => c (Or.inr (Or.inl z))
    have c8 : ¬ a = 8 := fun z => c (Or.inr (Or.inr (Or.inl z)))
    have c9 : ¬ a = 9 := fun z => c (Or.inr (Or.inr (Or.inr z)))
    unfold r_Mo_two
    rw [if_neg c3, if_neg c4, if_neg c8, if_neg c9]
    repeat' (first | exact bs_some (tr_some _ _) | exact ⟨_, rfl⟩ | refine ite_some ?_ ?_)
