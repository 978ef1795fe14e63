/-! fault 5, both sides; then a line's fault as a whole -/
def cP (mc : T_mc) (o : Nat) (lo hi : Int) (j : Nat) : Prop := (iN mc (fi mc o + j) = 12 ∨ iN mc (fi mc o + j) = 13) ∧ lo ≤ iA mc (fi mc o + j) ∧ iA mc (fi mc o + j) < hi
theorem ex_step {P : Nat → Prop} {j s : Nat} (h : j < s) : (∃ j', j ≤ j' ∧ j' < s ∧ P j') ↔ (P j ∨ ∃ j', j + 1 ≤ j' ∧ j' < s ∧ P j') := by
  constructor
  · rintro ⟨x, a, b, c⟩
    by_cases e : x = j
    · subst e; exact Or.inl c
    · exact Or.inr ⟨x, by omega, b, c⟩
  · rintro (c | ⟨x, a, b, c⟩)
    · exact ⟨j, Nat.le_refl _, h, c⟩
    · exact ⟨x, by omega, b, c⟩
theorem ex_none {P : Nat → Prop} {j s : Nat} (h : s ≤ j) : ¬ ∃ j', j ≤ j' ∧ j' < s ∧ P j' := by rintro ⟨x, a, b, -⟩; omega
theorem sh_tc_l {n : Nat} {ko : T_ko} {sh : T_sh} {mc : T_mc} (hc : CodeOK mc) (hk : KoRel ko mc) {o : Nat} (ho : o < nU mc) {x1 x2 : Int32} : ∀ (f j : Nat), j ≤ sz mc o → sz mc o < j + f → r_Sh_touchesCounter_l53 n ko sh f x1 x2 (nI o) (nI (sz mc o)) (nI j) = some (tv (∃ j', j ≤ j' ∧ j' < sz mc o ∧ cP mc o x2.toInt (x2.toInt + x1.toInt) j')) := by
  have hf := fi_le hc ho
  intro f
  induction f with
  | zero => intro j a b; omega
  | succ f ih =>
    intro j a b
    rw [r_Sh_touchesCounter_l53]
    by_cases e : j = sz mc o
    · rw [if_pos (by rw [e]; exact i_le.mpr (Int.le_refl _))]
      exact s0 (ex_none (by omega))
    · have hlt : j < sz mc o := by omega
      rw [if_neg (by rw [i_le, nI_t (by omega), nI_t (by omega)]; omega), co_numberAt hc hk ho hlt, co_aAt hc hk ho hlt]
      simp only [Option.bind_some, nI_1]
      have e1 : (mc_as_ mc (fi mc o + j)).toInt = iA mc (fi mc o + j) := rfl
      have e2 : (mc_numbers mc (fi mc o + j)).toInt = iN mc (fi mc o + j) := rfl
      have j98 : (iN mc (fi mc o + j) = 12 ∨ iN mc (fi mc o + j) = 13) → r_Sh_touchesCounter_j98 n ko sh (r_Sh_touchesCounter_l53 n ko sh f) x1 x2 (nI o) (nI (sz mc o)) (nI j) (mc_as_ mc (fi mc o + j)) = some (tv (∃ j', j ≤ j' ∧ j' < sz mc o ∧ cP mc o x2.toInt (x2.toInt + x1.toInt) j')) := by
        intro hn
        unfold r_Sh_touchesCounter_j98
        rw [nI_1, ih (j + 1) (by omega) (by omega)]
        by_cases c1 : mc_as_ mc (fi mc o + j) < x2
        · rw [if_pos c1]; rw [i_lt, e1] at c1
          refine congrArg some (tv_c ?_); rw [ex_step hlt]; unfold cP; constructor
          · exact Or.inr
          · rintro (h | h)
            · omega
            · exact h
        · rw [if_neg c1]; rw [i_lt, e1] at c1
          by_cases c2 : 0 ≤ lg_cmp (mc_as_ mc (fi mc o + j)).toInt64 (x2.toInt64 + x1.toInt64)
          · rw [if_pos c2]; rw [lc_ge, l_ii, l_i, e1] at c2
            refine congrArg some (tv_c ?_); rw [ex_step hlt]; unfold cP; constructor
            · exact Or.inr
            · rintro (h | h)
              · omega
              · exact h
          · rw [if_neg c2]; rw [lc_ge, l_ii, l_i, e1] at c2
            refine s1 ?_; rw [ex_step hlt]; exact Or.inl ⟨hn, by omega, by omega⟩
      by_cases c12 : mc_numbers mc (fi mc o + j) = 12
      · rw [if_pos c12]; exact j98 (Or.inl (by rw [← e2, c12]; decide))
      · rw [if_neg c12]
        by_cases c13 : mc_numbers mc (fi mc o + j) = 13
        · rw [if_pos c13]; exact j98 (Or.inr (by rw [← e2, c13]; decide))
        · rw [if_neg c13, ih (j + 1) (by omega) (by omega)]
          rw [i_eq, e2, k12] at c12; rw [i_eq, e2, k13] at c13
          refine congrArg some (tv_c ?_); rw [ex_step hlt]; unfold cP; constructor
          · exact Or.inr
          · rintro (h | h)
            · omega
            · exact h
theorem ctr_iff {mc : T_mc} {o : Nat} {lo hi : Int} : ctr mc o lo hi ↔ ∃ j', 0 ≤ j' ∧ j' < sz mc o ∧ cP mc o lo hi j' := by
  unfold ctr cP
  constructor
  · rintro ⟨j, a, b, c, d⟩; exact ⟨j, Nat.zero_le _, a, b, c, d⟩
  · rintro ⟨j, -, a, b, c, d⟩; exact ⟨j, a, b, c, d⟩
theorem sh_ctr {n : Nat} (hn : 5000 ≤ n) {ko : T_ko} {sh : T_sh} {mc : T_mc} (hc : CodeOK mc) (hk : KoRel ko mc) {u : Nat} (hu : u < nU mc) (hsu : sh_unit sh = nI u) (h2 : ¬ bad2 (sh_number sh).toInt (sh_a sh).toInt (sh_b sh).toInt (sh_c sh).toInt) (h3 : ¬ bad3 mc u (sh_number sh).toInt (sh_a sh).toInt) :
    r_Sh_touchesCounter n ko sh = some (tv (bad5 mc u (sh_number sh).toInt (sh_a sh).toInt (sh_b sh).toInt (sh_c sh).toInt)) := by
  obtain ⟨x, e1, e2⟩ := sh_many (n := n) hc hk hu h2 h3
  obtain ⟨y, f1, f2⟩ := sh_first (n := n) (sh := sh)
  have ho := Nat.lt_of_le_of_lt (own_lt h3) hu
  have hf := fi_le hc ho
  unfold r_Sh_touchesCounter
  rw [e1, f1, sh_owner hsu h3]
  simp only [Option.bind_some, co_size hc hk ho]
  rw [show (0 : Int32) = nI 0 from rfl, sh_tc_l hc hk ho n 0 (Nat.zero_le _) (by omega), ← ctr_iff]
  by_cases c12 : sh_number sh = 12
  · rw [if_pos c12]; refine s0 ?_; unfold bad5; rw [c12, k12]; exact fun h => h.1 rfl
  rw [if_neg c12]
  by_cases c13 : sh_number sh = 13
  · rw [if_pos c13]; refine s0 ?_; unfold bad5; rw [c13, k13]; exact fun h => h.2.1 rfl
  rw [if_neg c13]
  rw [i_eq, k12] at c12; rw [i_eq, k13] at c13
  rcases e2 with ⟨e2, e3⟩ | ⟨e2, e3, e4⟩
  · rw [if_pos e2]
    refine s0 ?_
    have : nCl mc (sh_number sh).toInt (sh_a sh).toInt (sh_c sh).toInt = 0 := by unfold hasC at e3; unfold nCl; (repeat' split) <;> omega
    unfold bad5 ctr
    rw [this]
    rintro ⟨-, -, j, -, -, a, b⟩; omega
  · rw [if_neg (fun e => by rw [e, km1] at e2; omega), f2, e4]
    refine congrArg some (tv_c ?_)
    unfold bad5
    exact ⟨fun h => ⟨c12, c13, h⟩, fun h => h.2.2⟩
def cE (mc : T_mc) (o : Nat) (v : Int) (j : Nat) : Prop := (iN mc (fi mc o + j) = 12 ∨ iN mc (fi mc o + j) = 13) ∧ iA mc (fi mc o + j) = v
theorem mo_isC_l {n : Nat} {mc : T_mc} (hc : CodeOK mc) {o : Nat} (ho : o < nU mc) {x2 : Int64} : ∀ (f j : Nat) (Q : Prop), j ≤ sz mc o → sz mc o < j + f → r_Mo_isCounter_l11 n mc f (nI o) x2 (tv Q) (nI (fi mc o + j)) = some (tv (Q ∨ ∃ j', j ≤ j' ∧ j' < sz mc o ∧ cE mc o x2.toInt j')) := by
  have hf := fi_le hc ho
  have h16 := hc.2.1
  have h256 := hc.2.2.2.1
  intro f
  induction f with
  | zero => intro j Q a b; omega
  | succ f ih =>
    intro j Q a b
    rw [r_Mo_isCounter_l11, nI_1, gr_nI (by omega) (by decide), hc.2.2.2.2.2.2.1 (o + 1) (by omega)]
    by_cases e : j = sz mc o
    · rw [if_pos (by rw [i_le, nI_t (by omega), nI_t (by omega)]; omega), gb_tv]
      refine congrArg some (tv_c ⟨Or.inl, ?_⟩)
      rintro (h | h)
      · exact h
      · exact absurd h (ex_none (by omega))
    · have hlt : j < sz mc o := by omega
      have hi : fi mc o + j < 256 := by omega
      rw [if_neg (by rw [i_le, nI_t (by omega), nI_t (by omega)]; omega)]
      simp only [gr_nI hi h31, nI_1]
      have e1 : (mc_as_ mc (fi mc o + j)).toInt = iA mc (fi mc o + j) := rfl
      have e2 : (mc_numbers mc (fi mc o + j)).toInt = iN mc (fi mc o + j) := rfl
      have t1 : r_Mo_isCounter_l11 n mc f (nI o) x2 1 (nI (fi mc o + j + 1)) = some 1 := by
        have := ih (j + 1) True (by omega) (by omega)
        rw [tv_t trivial, tv_t (Or.inl trivial)] at this; exact this
      have t0 : r_Mo_isCounter_l11 n mc f (nI o) x2 0 (nI (fi mc o + j + 1)) = some (tv (∃ j', j + 1 ≤ j' ∧ j' < sz mc o ∧ cE mc o x2.toInt j')) := by
        have := ih (j + 1) False (by omega) (by omega)
        rw [tv_f (fun h => h)] at this
        rw [show fi mc o + j + 1 = fi mc o + (j + 1) by omega, this]
        exact congrArg some (tv_c ⟨fun h => h.elim False.elim id, Or.inr⟩)
      by_cases q : Q
      · rw [if_neg (by rw [tv_t q]; decide), t1]; exact s1 (Or.inl q)
      · rw [if_pos (tv_f q)]
        have step : (Q ∨ ∃ j', j ≤ j' ∧ j' < sz mc o ∧ cE mc o x2.toInt j') ↔ (cE mc o x2.toInt j ∨ ∃ j', j + 1 ≤ j' ∧ j' < sz mc o ∧ cE mc o x2.toInt j') := by
          rw [ex_step hlt]; exact ⟨fun h => h.elim (fun h => absurd h q) id, Or.inr⟩
        have j53 : (iN mc (fi mc o + j) = 12 ∨ iN mc (fi mc o + j) = 13) → r_Mo_isCounter_j53 n mc (r_Mo_isCounter_l11 n mc f) (nI o) x2 (nI (fi mc o + j)) = some (tv (Q ∨ ∃ j', j ≤ j' ∧ j' < sz mc o ∧ cE mc o x2.toInt j')) := by
          intro hn
          unfold r_Mo_isCounter_j53
          rw [gr_nI hi h31, nI_1, t0, t1]
          by_cases c1 : lg_cmp (mc_as_ mc (fi mc o + j)).toInt64 x2 = 0
          · rw [if_pos c1]; rw [lc_eq, l_i, e1] at c1
            exact s1 (step.mpr (Or.inl ⟨hn, c1⟩))
          · rw [if_neg c1]; rw [lc_eq, l_i, e1] at c1
            refine congrArg some (tv_c ?_); rw [step]; exact ⟨Or.inr, fun h => h.elim (fun h => absurd h.2 c1) id⟩
        by_cases c12 : mc_numbers mc (fi mc o + j) = 12
        · rw [if_pos c12]; exact j53 (Or.inl (by rw [← e2, c12]; decide))
        · rw [if_neg c12]
          by_cases c13 : mc_numbers mc (fi mc o + j) = 13
          · rw [if_pos c13]; exact j53 (Or.inr (by rw [← e2, c13]; decide))
          · rw [if_neg c13, t0]
            rw [i_eq, e2, k12] at c12; rw [i_eq, e2, k13] at c13
            refine congrArg some (tv_c ?_); rw [step]; exact ⟨Or.inr, fun h => h.elim (fun h => absurd h.1 (by omega)) id⟩
theorem mo_isC {n : Nat} (hn : 5000 ≤ n) {mc : T_mc} (hc : CodeOK mc) {o : Nat} (ho : o < nU mc) {x2 : Int64} : r_Mo_isCounter n mc (nI o) x2 = some (tv (∃ j', 0 ≤ j' ∧ j' < sz mc o ∧ cE mc o x2.toInt j')) := by
  have hf := fi_le hc ho
  have h16 := hc.2.1
  unfold r_Mo_isCounter
  rw [gr_nI (by omega) (by decide), hc.2.2.2.2.2.2.1 o (by omega)]
  have := mo_isC_l (n := n) hc ho (x2 := x2) n 0 False (Nat.zero_le _) (by omega)
  rw [tv_f (fun h => h)] at this
  rw [show fi mc o = fi mc o + 0 from rfl, this]
  exact congrArg some (tv_c ⟨fun h => h.elim False.elim id, Or.inr⟩)
theorem mo_tc_l {n : Nat} (hn : 5000 ≤ n) {mc : T_mc} (hc : CodeOK mc) {o i : Nat} (ho : o < nU mc) {x : Int32} {y : Int64} (ex : r_Mo_cellsOf n mc (nI i) = some x) (ey : r_Mo_firstCell n mc (nI i) = some y) {N : Nat} (hx : x.toInt = N) (hN : N ≤ 4096) (hy : -2147483648 ≤ y.toInt ∧ y.toInt < 2147483648) :
    ∀ (f k : Nat) (Q : Prop), k ≤ N → N < k + f → r_Mo_touchesCounter_l50 n mc f (nI i) (nI o) (tv Q) (nI k) = some (tv (Q ∨ ∃ k', k ≤ k' ∧ k' < N ∧ ∃ j', 0 ≤ j' ∧ j' < sz mc o ∧ cE mc o (y.toInt + k') j')) := by
  intro f
  induction f with
  | zero => intro k Q a b; omega
  | succ f ih =>
    intro k Q a b
    rw [r_Mo_touchesCounter_l50, ex, ey]
    simp only [Option.bind_some, gb_tv]
    by_cases e : k = N
    · rw [if_pos (by rw [i_le, hx, nI_t (by omega)]; omega)]
      refine congrArg some (tv_c ⟨Or.inl, ?_⟩)
      rintro (h | h)
      · exact h
      · exact absurd h (ex_none (by omega))
    · have hlt : k < N := by omega
      rw [if_neg (by rw [i_le, hx, nI_t (by omega)]; omega)]
      by_cases q : Q
      · rw [if_neg (by rw [tv_t q]; decide)]; rw [tv_t q, tv_t (Or.inl q)]
      · have sum : (y + (nI k).toInt64).toInt = y.toInt + k := by rw [l_add (by rw [l_i, nI_t (by omega)]; omega) (by rw [l_i, nI_t (by omega)]; omega), l_i, nI_t (by omega)]
        rw [if_pos (tv_f q), mo_isC hn hc ho, sum, Option.bind_some, nI_1, ih (k + 1) _ (by omega) (by omega)]
        refine congrArg some (tv_c ?_)
        rw [ex_step (P := fun k' => ∃ j', 0 ≤ j' ∧ j' < sz mc o ∧ cE mc o (y.toInt + k') j') hlt]
        exact ⟨Or.inr, fun h => h.elim (fun h => absurd h q) id⟩
theorem mo_ctr {n : Nat} (hn : 5000 ≤ n) {mc : T_mc} (hc : CodeOK mc) {u i : Nat} (hi : i < 256) (hu : u < nU mc) (h2 : ¬ bad2 (iN mc i) (iA mc i) (iB mc i) (iC mc i)) (h3 : ¬ bad3 mc u (iN mc i) (iA mc i)) (h4 : ¬ bad4 mc u (iN mc i) (iA mc i) (iB mc i) (iC mc i)) :
    r_Mo_touchesCounter n mc (nI i) (nI u) = some (tv (bad5 mc u (iN mc i) (iA mc i) (iB mc i) (iC mc i))) := by
  have h16 := hc.2.1
  obtain ⟨x, e1, e2⟩ := mo_cells (n := n) hi (show u ≤ 16 by omega) h3
  obtain ⟨y, f1, f2⟩ := mo_first (n := n) (mc := mc) hi
  have ho := Nat.lt_of_le_of_lt (own_lt h3) hu
  have hfr := (hc.2.2.2.2.2.2.2.1 _ ho)
  have hy : -2147483648 ≤ y.toInt ∧ y.toInt < 2147483648 := by
    rw [f2]; unfold fCl iA iB; have a1 := i_ge (mc_as_ mc i); have a2 := i_lt31 (mc_as_ mc i); have b1 := i_ge (mc_bs mc i); have b2 := i_lt31 (mc_bs mc i)
    split <;> omega
  have hx0 : 0 ≤ nCl mc (iN mc i) (iA mc i) (iC mc i) := by
    by_cases c15 : iN mc i = 15
    · have c : 0 ≤ iA mc i ∧ iA mc i < u := by unfold bad3 at h3; omega
      have := (hc.2.2.2.2.2.2.2.1 (iA mc i).toNat (by omega)).1
      unfold nCl frm; (repeat' split) <;> omega
    · unfold bad2 at h2; unfold nCl; (repeat' split) <;> omega
  have hx1 : nCl mc (iN mc i) (iA mc i) (iC mc i) ≤ 4096 := by
    have : frm mc (own u (iN mc i) (iA mc i)) ≤ 4096 := hfr.2.1
    unfold bad4 at h4; omega
  have key : ∀ o, o = own u (iN mc i) (iA mc i) → r_Mo_touchesCounter_l50 n mc n (nI i) (nI o) (0 : Int32) (0 : Int32) = some (tv (ctr mc (own u (iN mc i) (iA mc i)) (fCl (iN mc i) (iA mc i) (iB mc i)) (fCl (iN mc i) (iA mc i) (iB mc i) + nCl mc (iN mc i) (iA mc i) (iC mc i)))) := by
    intro o eo
    have := mo_tc_l hn hc (eo ▸ ho) e1 f1 (N := (nCl mc (iN mc i) (iA mc i) (iC mc i)).toNat) (by rw [e2]; omega) (by omega) hy n 0 False (Nat.zero_le _) (by omega)
    rw [tv_f (fun h => h)] at this
    rw [show (0 : Int32) = nI 0 from rfl] at this ⊢
    rw [this]
    refine congrArg some (tv_c ?_)
    rw [← eo, ← f2]
    unfold ctr cE
    constructor
    · rintro (h | ⟨k', -, a, j, -, b, c, d⟩)
      · exact h.elim
      · exact ⟨j, b, c, by omega, by omega⟩
    · rintro ⟨j, a, b, c, d⟩
      exact Or.inr ⟨(iA mc (fi mc o + j) - y.toInt).toNat, Nat.zero_le _, by omega, j, Nat.zero_le _, a, b, by omega⟩
  unfold r_Mo_touchesCounter r_Mo_touchesCounter_j32
  simp only [gr_nI hi h31]
  by_cases c12 : mc_numbers mc i = 12
  · rw [if_pos c12]; refine s0 ?_; unfold bad5 iN; rw [c12, k12]; exact fun h => h.1 rfl
  rw [if_neg c12]
  by_cases c13 : mc_numbers mc i = 13
  · rw [if_pos c13]; refine s0 ?_; unfold bad5 iN; rw [c13, k13]; exact fun h => h.2.1 rfl
  rw [if_neg c13]
  rw [i_eq, k12] at c12; rw [i_eq, k13] at c13
  have fin : ctr mc (own u (iN mc i) (iA mc i)) (fCl (iN mc i) (iA mc i) (iB mc i)) (fCl (iN mc i) (iA mc i) (iB mc i) + nCl mc (iN mc i) (iA mc i) (iC mc i)) ↔ bad5 mc u (iN mc i) (iA mc i) (iB mc i) (iC mc i) := ⟨fun h => ⟨c12, c13, h⟩, fun h => h.2.2⟩
  by_cases c56 : iN mc i = 5 ∨ iN mc i = 6
  · have c : 0 ≤ iA mc i ∧ iA mc i < u := by unfold bad3 at h3; omega
    have ea : mc_as_ mc i = nI (iA mc i).toNat := i_nat c.1
    have k2 := key (iA mc i).toNat (by unfold own; rw [if_pos c56])
    rw [← ea] at k2
    rw [k2]
    rcases c56 with c5 | c6
    · rw [if_pos (by rw [i_eq, k5]; exact c5)]; exact congrArg some (tv_c fin)
    · rw [if_neg (by rw [i_eq, k5]; unfold iN at c6; omega), if_pos (by rw [i_eq, k6]; exact c6)]; exact congrArg some (tv_c fin)
  · rw [if_neg (by rw [i_eq, k5]; unfold iN at c56; omega), if_neg (by rw [i_eq, k6]; unfold iN at c56; omega), key u (by unfold own; rw [if_neg c56])]
    exact congrArg some (tv_c fin)
