/-! faults 4 to 6, both sides -/
theorem l_ii (x y : Int32) : (x.toInt64 + y.toInt64).toInt = x.toInt + y.toInt := by
  have a1 := i_ge x; have a2 := i_lt31 x; have b1 := i_ge y; have b2 := i_lt31 y
  rw [l_add (by rw [l_i, l_i]; omega) (by rw [l_i, l_i]; omega), l_i, l_i]
def hasC (nu : Int) : Prop := nu = 1 ∨ nu = 2 ∨ nu = 3 ∨ nu = 4 ∨ nu = 5 ∨ nu = 6 ∨ nu = 12 ∨ nu = 13 ∨ nu = 15 ∨ nu = 17
theorem sh_many {n : Nat} {ko : T_ko} {sh : T_sh} {mc : T_mc} (hc : CodeOK mc) (hk : KoRel ko mc) {u : Nat} (hu : u < nU mc) (h2 : ¬ bad2 (sh_number sh).toInt (sh_a sh).toInt (sh_b sh).toInt (sh_c sh).toInt) (h3 : ¬ bad3 mc u (sh_number sh).toInt (sh_a sh).toInt) :
    ∃ x, r_Sh_howManyCells n ko sh = some x ∧ ((x = -1 ∧ ¬ hasC (sh_number sh).toInt) ∨ (0 ≤ x.toInt ∧ hasC (sh_number sh).toInt ∧ x.toInt = nCl mc (sh_number sh).toInt (sh_a sh).toInt (sh_c sh).toInt)) := by
  unfold r_Sh_howManyCells
  by_cases c15 : (sh_number sh).toInt = 15
  · have c : 0 ≤ (sh_a sh).toInt ∧ (sh_a sh).toInt < u := by unfold bad3 at h3; omega
    have ea : sh_a sh = nI (sh_a sh).toInt.toNat := i_nat c.1
    have hlt : (sh_a sh).toInt.toNat < nU mc := by omega
    have e15 : sh_number sh = 15 := by rw [i_eq]; exact c15
    have ef : r_Co_frameOf n ko (sh_a sh) = some (mc_frames mc (sh_a sh).toInt.toNat) := by rw [ea, co_frame hc hk hlt, ← ea]
    rw [e15, ef]
    refine ⟨_, rfl, Or.inr ⟨(hc.2.2.2.2.2.2.2.1 _ hlt).1, ?_, ?_⟩⟩
    · unfold hasC; decide
    · unfold nCl; rfl
  · have d15 : ¬ sh_number sh = 15 := fun e => c15 (by rw [e]; decide)
    simp only [if_neg d15]
    unfold bad2 at h2
    unfold nCl hasC
    (repeat' split) <;> refine ⟨_, rfl, ?_⟩ <;> (try simp only [i_eq, i_le, i_lt, k0, km1, k1, k2, k3, k4, k5, k6, k7, k8, k9, k10, k11, k12, k13, k14, k15, k16, k17, k18, k19, k20, k21, k22, k23, k24, k25, k32, k64, k256, k257, k4096, k4095, k32767, k1000000, k20000] at *) <;> (first | omega | (refine Or.inr ⟨?_, ?_, ?_⟩ <;> first | trivial | omega) | (refine Or.inl ⟨?_, ?_⟩ <;> first | trivial | omega))
theorem sh_first {n : Nat} {sh : T_sh} : ∃ x, r_Sh_firstCell n sh = some x ∧ x.toInt = fCl (sh_number sh).toInt (sh_a sh).toInt (sh_b sh).toInt := by
  unfold r_Sh_firstCell r_Sh_firstCell_j35 r_Sh_firstCell_j40
  simp only [if_neg (show ¬ (1 : Int32) = 0 by decide), if_pos (show (0 : Int32) = 0 from rfl)]
  unfold fCl
  (repeat' split) <;> refine ⟨_, rfl, ?_⟩ <;> (try simp only [lc_eq, lc_le, lc_lt, lc_ge, lc_gt, l_i, K0, K1, K2, K7, K8, K18, K24, K1000000, K20000, K1000000000, K1000000001, K2000000000, Km1] at *) <;> (try simp only [i_eq, i_le, i_lt, k0, km1, k1, k2, k3, k4, k5, k6, k7, k8, k9, k10, k11, k12, k13, k14, k15, k16, k17, k18, k19, k20, k21, k22, k23, k24, k25, k32, k64, k256, k257, k4096, k4095, k32767, k1000000, k20000] at *) <;> (first | omega | (exact absurd True.intro (by assumption)) | skip)
theorem own_lt {mc : T_mc} {u : Nat} {nu a : Int} (h3 : ¬ bad3 mc u nu a) : own u nu a ≤ u := by
  unfold own
  split
  · unfold bad3 at h3; omega
  · exact Nat.le_refl _
theorem sh_owner {n : Nat} {sh : T_sh} {mc : T_mc} {u : Nat} (hsu : sh_unit sh = nI u) (h3 : ¬ bad3 mc u (sh_number sh).toInt (sh_a sh).toInt) : r_Sh_ownerOfCells n sh = some (nI (own u (sh_number sh).toInt (sh_a sh).toInt)) := by
  unfold r_Sh_ownerOfCells own
  rw [hsu]
  by_cases c5 : sh_number sh = 5
  · have c : 0 ≤ (sh_a sh).toInt := by unfold bad3 at h3; rw [c5] at h3; have := k5; omega
    rw [if_pos c5, c5]; exact congrArg some (i_nat c)
  by_cases c6 : sh_number sh = 6
  · have c : 0 ≤ (sh_a sh).toInt := by unfold bad3 at h3; rw [c6] at h3; have := k6; omega
    rw [if_neg c5, if_pos c6, c6]; exact congrArg some (i_nat c)
  rw [if_neg c5, if_neg c6, if_neg]
  rw [i_eq, k5] at c5; rw [i_eq, k6] at c6; omega
theorem sh_frame {n : Nat} {ko : T_ko} {sh : T_sh} {mc : T_mc} (hc : CodeOK mc) (hk : KoRel ko mc) {u : Nat} (hu : u < nU mc) (hsu : sh_unit sh = nI u) (h2 : ¬ bad2 (sh_number sh).toInt (sh_a sh).toInt (sh_b sh).toInt (sh_c sh).toInt) (h3 : ¬ bad3 mc u (sh_number sh).toInt (sh_a sh).toInt) :
    r_Sh_leavesFrame n ko sh = some (tv (bad4 mc u (sh_number sh).toInt (sh_a sh).toInt (sh_b sh).toInt (sh_c sh).toInt)) := by
  obtain ⟨x, e1, e2⟩ := sh_many (n := n) hc hk hu h2 h3
  obtain ⟨y, f1, f2⟩ := sh_first (n := n) (sh := sh)
  have ho := own_lt h3
  unfold r_Sh_leavesFrame
  rw [e1, f1, sh_owner hsu h3]
  simp only [Option.bind_some, co_frame hc hk (Nat.lt_of_le_of_lt ho hu)]
  have g : (mc_frames mc (own u (sh_number sh).toInt (sh_a sh).toInt)).toInt = frm mc (own u (sh_number sh).toInt (sh_a sh).toInt) := rfl
  rcases e2 with ⟨e2, e3⟩ | ⟨e2, e3, e4⟩
  · rw [if_pos e2]
    refine s0 ?_
    unfold bad4
    have : nCl mc (sh_number sh).toInt (sh_a sh).toInt (sh_c sh).toInt = 0 := by unfold hasC at e3; unfold nCl; (repeat' split) <;> omega
    unfold hasC at e3
    omega
  · rw [if_neg (fun e => by rw [e, km1] at e2; omega)]
    have hz : nCl mc (sh_number sh).toInt (sh_a sh).toInt (sh_c sh).toInt = 0 → (sh_number sh).toInt = 15 := by
      unfold hasC at e3; unfold bad2 at h2; unfold nCl; (repeat' split) <;> omega
    have f15 : (sh_number sh).toInt = 15 → fCl (sh_number sh).toInt (sh_a sh).toInt (sh_b sh).toInt = (sh_b sh).toInt := by
      intro e; unfold fCl; rw [if_pos (by omega)]
    unfold bad4
    rw [← g, ← f2, ← e4]
    rw [← f2] at f15
    rw [← e4] at hz
    (repeat' split) <;> (first | refine s1 ?_ | refine s0 ?_) <;> (try simp only [lc_le, l_ii, l_i] at *) <;> (try simp only [i_le, i_lt, k0] at *) <;> omega
theorem mo_frame {n : Nat} {mc : T_mc} (hc : CodeOK mc) {u i : Nat} (hi : i < 256) (hu : u < nU mc) (h2 : ¬ bad2 (iN mc i) (iA mc i) (iB mc i) (iC mc i)) (h3 : ¬ bad3 mc u (iN mc i) (iA mc i)) :
    r_Mo_isWrongCell n mc (nI i) (nI u) = some (tv (bad4 mc u (iN mc i) (iA mc i) (iB mc i) (iC mc i))) := by
  have h16 := hc.2.1
  obtain ⟨x, e1, e2⟩ := mo_cells (n := n) hi (show u ≤ 16 by omega) h3
  obtain ⟨y, f1, f2⟩ := mo_first (n := n) (mc := mc) hi
  have hx1 := i_ge x; have hx2 := i_lt31 x
  have hy : -2147483648 ≤ y.toInt ∧ y.toInt < 2147483648 := by
    rw [f2]; unfold fCl iA iB; have a1 := i_ge (mc_as_ mc i); have a2 := i_lt31 (mc_as_ mc i); have b1 := i_ge (mc_bs mc i); have b2 := i_lt31 (mc_bs mc i)
    split <;> omega
  have sum : (y + x.toInt64).toInt = y.toInt + x.toInt := by rw [l_add (by rw [l_i]; omega) (by rw [l_i]; omega), l_i]
  have j65 : ∀ z : Int32, r_Mo_isWrongCell_j65 n mc (nI i) z = some (tv (y.toInt < 0 ∨ z.toInt < y.toInt + x.toInt)) := fun z => by
    unfold r_Mo_isWrongCell_j65
    rw [f1, e1]
    simp only [Option.bind_some]
    (repeat' split) <;> (first | refine s1 ?_ | refine s0 ?_) <;> (simp only [lc_lt, lc_le, sum, l_i, K0] at *) <;> omega
  have j24 : r_Mo_isWrongCell_j24 n mc (nI i) (nI u) (mc_numbers mc i) = some (tv (x.toInt ≠ 0 ∧ (y.toInt < 0 ∨ frm mc (own u (iN mc i) (iA mc i)) < y.toInt + x.toInt))) := by
    unfold r_Mo_isWrongCell_j24 r_Mo_isWrongCell_j45
    rw [e1]
    simp only [Option.bind_some, gr_nI hi h31, gr_nI (show u < 16 by omega) (by decide : 16 < 2147483648), j65]
    by_cases cz : x = 0
    · rw [if_pos cz]; refine s0 ?_; rw [cz, k0]; omega
    · have cz' : x.toInt ≠ 0 := fun e => cz (by rw [i_eq, k0]; exact e)
      rw [if_neg cz]
      by_cases c56 : iN mc i = 5 ∨ iN mc i = 6
      · have c : 0 ≤ iA mc i ∧ iA mc i < u := by unfold bad3 at h3; omega
        have ea : mc_as_ mc i = nI (iA mc i).toNat := i_nat c.1
        have eo : own u (iN mc i) (iA mc i) = (iA mc i).toNat := by unfold own; rw [if_pos c56]
        have key : gr (mc_frames mc) (mc_as_ mc i) 16 (fun v9 => some (tv (y.toInt < 0 ∨ v9.toInt < y.toInt + x.toInt))) = some (tv (x.toInt ≠ 0 ∧ (y.toInt < 0 ∨ frm mc (own u (iN mc i) (iA mc i)) < y.toInt + x.toInt))) := by
          rw [ea, gr_nI (by omega) (by decide), eo]
          refine congrArg some (tv_c ?_)
          show _ ↔ x.toInt ≠ 0 ∧ (_ ∨ (mc_frames mc (iA mc i).toNat).toInt < _)
          omega
        rcases c56 with c5 | c6
        · rw [if_pos (by rw [i_eq, k5]; exact c5), key]
        · rw [if_neg (by rw [i_eq, k5]; unfold iN at c6; omega), if_pos (by rw [i_eq, k6]; exact c6), key]
      · have eo : own u (iN mc i) (iA mc i) = u := by unfold own; rw [if_neg c56]
        rw [if_neg (by rw [i_eq, k5]; unfold iN at c56; omega), if_neg (by rw [i_eq, k6]; unfold iN at c56; omega), eo]
        refine congrArg some (tv_c ?_)
        show _ ↔ x.toInt ≠ 0 ∧ (_ ∨ (mc_frames mc u).toInt < _)
        omega
  unfold r_Mo_isWrongCell
  simp only [gr_nI hi h31, j24]
  unfold bad4
  rw [← e2, ← f2]
  by_cases c15 : mc_numbers mc i = 15
  · have d15 : iN mc i = 15 := by unfold iN; rw [c15]; decide
    rw [if_pos c15]
    by_cases cb : 0 ≤ mc_bs mc i
    · rw [if_pos cb]; rw [i_le, k0] at cb
      refine congrArg some (tv_c ?_); unfold iB; omega
    · rw [if_neg cb]; rw [i_le, k0] at cb
      refine s1 ?_; unfold iB; omega
  · have d15 : ¬ iN mc i = 15 := fun e => c15 (by rw [i_eq, k15]; exact e)
    rw [if_neg c15]
    refine congrArg some (tv_c ?_); omega
theorem sh_way {n : Nat} {ko : T_ko} {sh : T_sh} {mc : T_mc} (hc : CodeOK mc) (hk : KoRel ko mc) {u k : Nat} (hu : u < nU mc) (hsu : sh_unit sh = nI u) (hsi : sh_i sh = nI k) (hks : k < sz mc u) : r_Sh_goesWrongWay n ko sh = some (tv (bad6 (sz mc u) k (sh_number sh).toInt (sh_a sh).toInt (sh_b sh).toInt)) := by
  have hf := fi_le hc hu
  have t1 : (nI (sz mc u)).toInt = (sz mc u : Int) := nI_t (by omega)
  have t2 : (nI k).toInt = (k : Int) := nI_t (by omega)
  unfold r_Sh_goesWrongWay
  rw [hsu, hsi, co_size hc hk hu]
  simp only [Option.bind_some]
  unfold bad6
  (repeat' split) <;> (first | refine s1 ?_ | refine s0 ?_) <;> (simp only [i_eq, i_le, i_lt, t1, t2, k0, km1, k1, k2, k3, k4, k5, k6, k7, k8, k9, k10, k11, k12, k13, k14, k15, k16, k17, k18, k19, k20, k21, k22, k23, k24, k25, k32, k64, k256, k257, k4096, k4095, k32767, k1000000, k20000] at *) <;> omega
theorem mo_way {n : Nat} {mc : T_mc} {mq : T_mq} (hc : CodeOK mc) {u k : Nat} (hu : u < nU mc) (hks : k < sz mc u) (hfr : mq_from_ mq = nI (fi mc u)) (hmn : mq_many mq = nI (sz mc u)) : r_Mo_goesWrong n mc mq (nI k) = some (tv (bad6 (sz mc u) k (iN mc (fi mc u + k)) (iA mc (fi mc u + k)) (iB mc (fi mc u + k)))) := by
  have hf := fi_le hc hu
  have h256 := hc.2.2.2.1
  have hi : fi mc u + k < 256 := by omega
  have t1 : ((nI (sz mc u)).toInt64).toInt = (sz mc u : Int) := by rw [l_i, nI_t (by omega)]
  have t2 : ((nI k).toInt64 + 1).toInt = (k : Int) + 1 := by
    rw [l_add (by rw [l_i, nI_t (by omega), K1]; omega) (by rw [l_i, nI_t (by omega), K1]; omega), l_i, nI_t (by omega), K1]
  have t3 : ((nI k).toInt64 - 1).toInt = (k : Int) - 1 := by
    rw [l_sub (by rw [l_i, nI_t (by omega), K1]; omega) (by rw [l_i, nI_t (by omega), K1]; omega), l_i, nI_t (by omega), K1]
  unfold r_Mo_goesWrong r_Mo_numberAt
  rw [hfr, hmn, nI_add]
  simp only [gr_nI hi h31, Option.bind_some, mo_isIn, tv_not, t1, t2, t3, l_i, K0]
  unfold bad6 iN iA iB
  (repeat' split) <;> (first | refine s1 ?_ | refine s0 ?_ | refine congrArg some (tv_c ?_)) <;> (simp only [i_eq, k0, km1, k1, k2, k3, k4, k5, k6, k7, k8, k9, k10, k11, k12, k13, k14, k15, k16, k17, k18, k19, k20, k21, k22, k23, k24, k25, k32, k64, k256, k257, k4096, k4095, k32767, k1000000, k20000] at *) <;> omega
