/-! what is wrong with an instruction by itself (faults 2 to 6), and that class and reference both say it -/
def iN (mc : T_mc) (i : Nat) : Int := (mc_numbers mc i).toInt
def iA (mc : T_mc) (i : Nat) : Int := (mc_as_ mc i).toInt
def iB (mc : T_mc) (i : Nat) : Int := (mc_bs mc i).toInt
def iC (mc : T_mc) (i : Nat) : Int := (mc_cs mc i).toInt
def plc (mc : T_mc) (u : Nat) : Int := (mc_places mc u).toInt
def frm (mc : T_mc) (u : Nat) : Int := (mc_frames mc u).toInt
def bad2 (nu a b c : Int) : Prop := (nu = 7 ∧ ¬ (0 ≤ a ∧ a ≤ 24)) ∨ (nu = 8 ∧ ¬ (0 ≤ a ∧ a ≤ 7)) ∨ (nu = 12 ∧ ¬ (0 ≤ b ∧ b ≤ 1000000)) ∨ (nu = 17 ∧ ¬ (0 ≤ a ∧ a ≤ 8)) ∨ ((nu = 3 ∨ nu = 4) ∧ c < 1) ∨ ¬ (0 ≤ nu ∧ nu ≤ 18)
def bad3 (mc : T_mc) (u : Nat) (nu a : Int) : Prop := ((nu = 5 ∨ nu = 6 ∨ nu = 16) ∧ (¬ (0 ≤ a ∧ a < u) ∨ plc mc a.toNat < 0)) ∨ (nu = 15 ∧ (¬ (0 ≤ a ∧ a < u) ∨ 0 ≤ plc mc a.toNat))
def nCl (mc : T_mc) (nu a c : Int) : Int := if nu = 1 ∨ nu = 2 ∨ nu = 5 ∨ nu = 6 ∨ nu = 12 ∨ nu = 13 then 1 else if nu = 3 ∨ nu = 4 then c else if nu = 15 then frm mc a.toNat else if nu = 17 then (if a < 5 then 6 else 3) else 0
def fCl (nu a b : Int) : Int := if nu = 5 ∨ nu = 6 ∨ nu = 15 ∨ nu = 17 then b else a
def own (u : Nat) (nu a : Int) : Nat := if nu = 5 ∨ nu = 6 then a.toNat else u
def bad4 (mc : T_mc) (u : Nat) (nu a b c : Int) : Prop := (nu = 15 ∧ b < 0) ∨ (nCl mc nu a c ≠ 0 ∧ (fCl nu a b < 0 ∨ frm mc (own u nu a) < fCl nu a b + nCl mc nu a c))
def ctr (mc : T_mc) (u : Nat) (lo hi : Int) : Prop := ∃ j, j < sz mc u ∧ (iN mc (fi mc u + j) = 12 ∨ iN mc (fi mc u + j) = 13) ∧ lo ≤ iA mc (fi mc u + j) ∧ iA mc (fi mc u + j) < hi
def bad5 (mc : T_mc) (u : Nat) (nu a b c : Int) : Prop := nu ≠ 12 ∧ nu ≠ 13 ∧ ctr mc (own u nu a) (fCl nu a b) (fCl nu a b + nCl mc nu a c)
def bad6 (s : Nat) (k : Nat) (nu a b : Int) : Prop := ((nu = 10 ∨ nu = 11) ∧ ¬ ((k : Int) + 1 ≤ a ∧ a ≤ s)) ∨ (nu = 13 ∧ ¬ ((k : Int) + 1 ≤ b ∧ b ≤ s)) ∨ (nu = 14 ∧ ¬ (0 ≤ a ∧ a ≤ (k : Int) - 1))
theorem h31 : 256 < 2147483648 := by decide
theorem k0 : (0 : Int32).toInt = 0 := by decide
theorem k1 : (1 : Int32).toInt = 1 := by decide
theorem k2 : (2 : Int32).toInt = 2 := by decide
theorem k3 : (3 : Int32).toInt = 3 := by decide
theorem k4 : (4 : Int32).toInt = 4 := by decide
theorem k5 : (5 : Int32).toInt = 5 := by decide
theorem k6 : (6 : Int32).toInt = 6 := by decide
theorem k7 : (7 : Int32).toInt = 7 := by decide
theorem k8 : (8 : Int32).toInt = 8 := by decide
theorem k9 : (9 : Int32).toInt = 9 := by decide
theorem k10 : (10 : Int32).toInt = 10 := by decide
theorem k11 : (11 : Int32).toInt = 11 := by decide
theorem k12 : (12 : Int32).toInt = 12 := by decide
theorem k13 : (13 : Int32).toInt = 13 := by decide
theorem k14 : (14 : Int32).toInt = 14 := by decide
theorem k15 : (15 : Int32).toInt = 15 := by decide
theorem k16 : (16 : Int32).toInt = 16 := by decide
theorem k17 : (17 : Int32).toInt = 17 := by decide
theorem k18 : (18 : Int32).toInt = 18 := by decide
theorem k19 : (19 : Int32).toInt = 19 := by decide
theorem k20 : (20 : Int32).toInt = 20 := by decide
theorem k21 : (21 : Int32).toInt = 21 := by decide
theorem k22 : (22 : Int32).toInt = 22 := by decide
theorem k23 : (23 : Int32).toInt = 23 := by decide
theorem k24 : (24 : Int32).toInt = 24 := by decide
theorem k25 : (25 : Int32).toInt = 25 := by decide
theorem k32 : (32 : Int32).toInt = 32 := by decide
theorem k64 : (64 : Int32).toInt = 64 := by decide
theorem k256 : (256 : Int32).toInt = 256 := by decide
theorem k257 : (257 : Int32).toInt = 257 := by decide
theorem k4096 : (4096 : Int32).toInt = 4096 := by decide
theorem k4095 : (4095 : Int32).toInt = 4095 := by decide
theorem k32767 : (32767 : Int32).toInt = 32767 := by decide
theorem k1000000 : (1000000 : Int32).toInt = 1000000 := by decide
theorem k20000 : (20000 : Int32).toInt = 20000 := by decide
theorem km1 : (-1 : Int32).toInt = -1 := by decide
theorem K0 : (0 : Int64).toInt = 0 := by decide
theorem K1 : (1 : Int64).toInt = 1 := by decide
theorem K2 : (2 : Int64).toInt = 2 := by decide
theorem K7 : (7 : Int64).toInt = 7 := by decide
theorem K8 : (8 : Int64).toInt = 8 := by decide
theorem K18 : (18 : Int64).toInt = 18 := by decide
theorem K24 : (24 : Int64).toInt = 24 := by decide
theorem K1000000 : (1000000 : Int64).toInt = 1000000 := by decide
theorem K20000 : (20000 : Int64).toInt = 20000 := by decide
theorem K1000000000 : (1000000000 : Int64).toInt = 1000000000 := by decide
theorem K1000000001 : (1000000001 : Int64).toInt = 1000000001 := by decide
theorem K2000000000 : (2000000000 : Int64).toInt = 2000000000 := by decide
theorem Km1 : (-1 : Int64).toInt = -1 := by decide
theorem mo_num {n : Nat} {mc : T_mc} {i : Nat} (hi : i < 256) : r_Mo_isWrongNumber n mc (nI i) = some (tv (bad2 (iN mc i) (iA mc i) (iB mc i) (iC mc i))) := by
  unfold r_Mo_isWrongNumber r_Mo_isWrongNumber_j188
  simp only [gr_nI hi h31, mo_isIn, Option.bind_some, tv_not, l_i]
  unfold bad2 iN iA iB iC
  (repeat' split) <;> (first | refine s1 ?_ | refine s0 ?_ | refine congrArg some (tv_c ?_)) <;> (simp only [i_eq, i_le, i_lt, lc_eq, lc_le, lc_lt, lc_ge, lc_gt, l_i, k0, km1, k1, k2, k3, k4, k5, k6, k7, k8, k9, k10, k11, k12, k13, k14, k15, k16, k17, k18, k19, k20, k21, k22, k23, k24, k25, k32, k64, k256, k257, k4096, k4095, k32767, k1000000, k20000, K0, K1, K2, K7, K8, K18, K24, K1000000, K20000, K1000000000, K1000000001, K2000000000, Km1] at *) <;> (first | omega | (exact absurd True.intro (by assumption)) | skip)
theorem sh_num {n : Nat} {sh : T_sh} : r_Sh_isInstruction n sh = some (tv (¬ bad2 (sh_number sh).toInt (sh_a sh).toInt (sh_b sh).toInt (sh_c sh).toInt)) := by
  unfold r_Sh_isInstruction r_Sh_isInstruction_j182 bad2
  (repeat' split) <;> (first | refine s1 ?_ | refine s0 ?_ | refine congrArg some (tv_c ?_)) <;> (simp only [i_eq, i_le, i_lt, lc_eq, lc_le, lc_lt, lc_ge, lc_gt, l_i, k0, km1, k1, k2, k3, k4, k5, k6, k7, k8, k9, k10, k11, k12, k13, k14, k15, k16, k17, k18, k19, k20, k21, k22, k23, k24, k25, k32, k64, k256, k257, k4096, k4095, k32767, k1000000, k20000, K0, K1, K2, K7, K8, K18, K24, K1000000, K20000, K1000000000, K1000000001, K2000000000, Km1] at *) <;> (first | omega | (exact absurd True.intro (by assumption)) | skip)
theorem mo_unit {n : Nat} {mc : T_mc} {i u : Nat} (hi : i < 256) (hu : u ≤ 16) : r_Mo_isWrongUnit n mc (nI i) (nI u) = some (tv (bad3 mc u (iN mc i) (iA mc i))) := by
  have e1 : ((nI u).toInt64 - 1).toInt = (u : Int) - 1 := by rw [l_sub (by rw [l_i, nI_t (by omega)]; show (-9223372036854775808 : Int) ≤ _ - 1; omega) (by rw [l_i, nI_t (by omega)]; show _ - (1 : Int) < _; omega), l_i, nI_t (by omega)]; rfl
  have z : (0 : Int64).toInt = 0 := by decide
  unfold r_Mo_isWrongUnit r_Mo_namesUnit
  simp only [gr_nI hi h31, mo_isIn, l_i, e1, z]
  by_cases c : 0 ≤ (mc_as_ mc i).toInt ∧ (mc_as_ mc i).toInt ≤ (u : Int) - 1
  · have ea : mc_as_ mc i = nI (iA mc i).toNat := i_nat c.1
    have hlt : (iA mc i).toNat < 16 := by unfold iA; omega
    rw [tv_t c, ea]
    simp only [gr_nI hlt (by decide : 16 < 2147483648), Option.bind_some, if_neg (show ¬ (1 : Int32) = 0 by decide)]
    have hc' : 0 ≤ iA mc i ∧ iA mc i < u := by unfold iA; omega
    clear ea
    unfold bad3 iN plc
    (repeat' split) <;> (simp only [Option.bind_some, if_neg (show ¬ (1 : Int32) = 0 by decide), if_pos (show (0 : Int32) = 0 from rfl)]) <;> (repeat' split) <;> (first | refine s1 ?_ | refine s0 ?_) <;> (simp only [i_eq, i_le, i_lt, lc_eq, lc_le, lc_lt, lc_ge, lc_gt, l_i, k0, km1, k1, k2, k3, k4, k5, k6, k7, k8, k9, k10, k11, k12, k13, k14, k15, k16, k17, k18, k19, k20, k21, k22, k23, k24, k25, k32, k64, k256, k257, k4096, k4095, k32767, k1000000, k20000, K0, K1, K2, K7, K8, K18, K24, K1000000, K20000, K1000000000, K1000000001, K2000000000, Km1] at *) <;> (first | omega | (exact absurd True.intro (by assumption)) | skip)
  · rw [tv_f c]
    have hc' : ¬ (0 ≤ iA mc i ∧ iA mc i < u) := by unfold iA; omega
    unfold bad3 iN
    (repeat' split) <;> (simp only [Option.bind_some, if_neg (show ¬ (1 : Int32) = 0 by decide), if_pos (show (0 : Int32) = 0 from rfl)]) <;> (first | refine s1 ?_ | refine s0 ?_) <;> (simp only [i_eq, i_le, i_lt, lc_eq, lc_le, lc_lt, lc_ge, lc_gt, l_i, k0, km1, k1, k2, k3, k4, k5, k6, k7, k8, k9, k10, k11, k12, k13, k14, k15, k16, k17, k18, k19, k20, k21, k22, k23, k24, k25, k32, k64, k256, k257, k4096, k4095, k32767, k1000000, k20000, K0, K1, K2, K7, K8, K18, K24, K1000000, K20000, K1000000000, K1000000001, K2000000000, Km1] at *) <;> (first | omega | (exact absurd True.intro (by assumption)) | skip)
theorem sh_unit_ok {n : Nat} {ko : T_ko} {sh : T_sh} {mc : T_mc} (hc : CodeOK mc) (hk : KoRel ko mc) {u : Nat} (hu : u < nU mc) (hsu : sh_unit sh = nI u) : r_Sh_namesWrongUnit n ko sh = some (tv (bad3 mc u (sh_number sh).toInt (sh_a sh).toInt)) := by
  have h16 := hc.2.1
  unfold r_Sh_namesWrongUnit
  rw [hsu]
  by_cases c : 0 ≤ (sh_a sh).toInt ∧ (sh_a sh).toInt < u
  · have ea : sh_a sh = nI (sh_a sh).toInt.toNat := i_nat c.1
    have hlt : (sh_a sh).toInt.toNat < nU mc := by omega
    have hp := (hc.2.2.2.2.2.2.2.1 _ hlt).2.2.1
    have c1 : ¬ sh_a sh < 0 := by rw [i_lt, k0]; omega
    have c2 : ¬ nI u ≤ sh_a sh := by rw [i_le, nI_t (by omega)]; omega
    have ep : r_Co_placeOf n ko (sh_a sh) = some (mc_places mc (sh_a sh).toInt.toNat) := by rw [ea, co_place hc hk hlt, ← ea]
    rw [ep]
    simp only [if_neg c1, if_neg c2, Option.bind_some]
    unfold bad3 plc
    (repeat' split) <;> (first | refine s1 ?_ | refine s0 ?_) <;> (simp only [i_eq, i_le, i_lt, lc_eq, lc_le, lc_lt, lc_ge, lc_gt, l_i, k0, km1, k1, k2, k3, k4, k5, k6, k7, k8, k9, k10, k11, k12, k13, k14, k15, k16, k17, k18, k19, k20, k21, k22, k23, k24, k25, k32, k64, k256, k257, k4096, k4095, k32767, k1000000, k20000, K0, K1, K2, K7, K8, K18, K24, K1000000, K20000, K1000000000, K1000000001, K2000000000, Km1] at *) <;> (first | omega | (exact absurd True.intro (by assumption)) | skip)
  · have c3 : sh_a sh < 0 ∨ nI u ≤ sh_a sh := by rw [i_lt, i_le, nI_t (by omega), k0]; omega
    unfold bad3
    rcases c3 with c3 | c3
    · simp only [if_pos c3]
      (repeat' split) <;> (first | refine s1 ?_ | refine s0 ?_) <;> (simp only [i_eq, i_le, i_lt, lc_eq, lc_le, lc_lt, lc_ge, lc_gt, l_i, k0, km1, k1, k2, k3, k4, k5, k6, k7, k8, k9, k10, k11, k12, k13, k14, k15, k16, k17, k18, k19, k20, k21, k22, k23, k24, k25, k32, k64, k256, k257, k4096, k4095, k32767, k1000000, k20000, K0, K1, K2, K7, K8, K18, K24, K1000000, K20000, K1000000000, K1000000001, K2000000000, Km1] at *) <;> (first | omega | (exact absurd True.intro (by assumption)) | skip)
    · simp only [if_pos c3, ite_self]
      (repeat' split) <;> (first | refine s1 ?_ | refine s0 ?_) <;> (simp only [i_eq, i_le, i_lt, lc_eq, lc_le, lc_lt, lc_ge, lc_gt, l_i, k0, km1, k1, k2, k3, k4, k5, k6, k7, k8, k9, k10, k11, k12, k13, k14, k15, k16, k17, k18, k19, k20, k21, k22, k23, k24, k25, k32, k64, k256, k257, k4096, k4095, k32767, k1000000, k20000, K0, K1, K2, K7, K8, K18, K24, K1000000, K20000, K1000000000, K1000000001, K2000000000, Km1] at *) <;> (first | omega | (exact absurd True.intro (by assumption)) | skip)
theorem mo_first {n : Nat} {mc : T_mc} {i : Nat} (hi : i < 256) : ∃ x, r_Mo_firstCell n mc (nI i) = some x ∧ x.toInt = fCl (iN mc i) (iA mc i) (iB mc i) := by
  unfold r_Mo_firstCell
  simp only [gr_nI hi h31]
  unfold fCl iN iA iB
  (repeat' split) <;> refine ⟨_, rfl, ?_⟩ <;> (simp only [i_eq, i_le, i_lt, lc_eq, lc_le, lc_lt, lc_ge, lc_gt, l_i, k0, km1, k1, k2, k3, k4, k5, k6, k7, k8, k9, k10, k11, k12, k13, k14, k15, k16, k17, k18, k19, k20, k21, k22, k23, k24, k25, k32, k64, k256, k257, k4096, k4095, k32767, k1000000, k20000, K0, K1, K2, K7, K8, K18, K24, K1000000, K20000, K1000000000, K1000000001, K2000000000, Km1] at *) <;> (first | omega | (exact absurd True.intro (by assumption)) | skip)
theorem mo_cells {n : Nat} {mc : T_mc} {i u : Nat} (hi : i < 256) (hu : u ≤ 16) (h3 : ¬ bad3 mc u (iN mc i) (iA mc i)) : ∃ x, r_Mo_cellsOf n mc (nI i) = some x ∧ x.toInt = nCl mc (iN mc i) (iA mc i) (iC mc i) := by
  unfold r_Mo_cellsOf
  simp only [gr_nI hi h31]
  by_cases c15 : iN mc i = 15
  · have c : 0 ≤ iA mc i ∧ iA mc i < u := by unfold bad3 at h3; omega
    have ea : mc_as_ mc i = nI (iA mc i).toNat := i_nat c.1
    have e15 : mc_numbers mc i = 15 := by rw [i_eq]; exact c15
    rw [e15, ea, gr_nI (by omega) (by decide)]
    refine ⟨_, rfl, ?_⟩
    unfold nCl; rw [c15]; rfl
  · have d15 : ¬ mc_numbers mc i = 15 := fun e => c15 (by unfold iN; rw [e]; decide)
    simp only [if_neg d15]
    unfold nCl iN iA iC
    unfold iN at c15
    (repeat' split) <;> refine ⟨_, rfl, ?_⟩ <;> (simp only [i_eq, i_le, i_lt, lc_eq, lc_le, lc_lt, lc_ge, lc_gt, l_i, k0, km1, k1, k2, k3, k4, k5, k6, k7, k8, k9, k10, k11, k12, k13, k14, k15, k16, k17, k18, k19, k20, k21, k22, k23, k24, k25, k32, k64, k256, k257, k4096, k4095, k32767, k1000000, k20000, K0, K1, K2, K7, K8, K18, K24, K1000000, K20000, K1000000000, K1000000001, K2000000000, Km1] at *) <;> (first | omega | (exact absurd True.intro (by assumption)) | skip)
