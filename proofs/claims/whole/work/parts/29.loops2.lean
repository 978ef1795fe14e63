/-! fault 7: the reference's isWrongLoop and the class's Loops -/
theorem mo_loop {n : Nat} (hn : 5000 ≤ n) {mc : T_mc} {mq : T_mq} (hc : CodeOK mc) {u k : Nat} (hu : u < nU mc) (hks : k < sz mc u) (hl : linesOK mc u) (hfr : mq_from_ mq = nI (fi mc u)) (hmn : mq_many mq = nI (sz mc u)) : r_Mo_isWrongLoop n mc mq (nI k) = some (tv (bad7 mc u k)) := by
  have hf := fi_le hc hu
  have h256 := hc.2.2.2.1
  have hge : ∀ j, j < sz mc u → ¬ nI (sz mc u) ≤ nI j := fun j hj => by rw [i_le, nI_t (by omega), nI_t (by omega)]; omega
  have n13 : ∀ j, mc_numbers mc (fi mc u + j) = 13 ↔ uN mc u j = 13 := fun j => by rw [i_eq, k13]; rfl
  have q3 : (mc_as_ mc (fi mc u + k)).toInt = uA mc u k := rfl
  have kT : (nI k).toInt = (k : Int) := nI_t (by omega)
  -- the three loops
  have l61 := acc0 (R := fun f q j => r_Mo_isWrongLoop_l61 n mc mq f (nI k) q (nI j)) (S := sz mc u) (P := fun j => uN mc u j = 13 ∧ inL mc u k j ∧ uA mc u j = uA mc u k)
    (fun f Q => by show r_Mo_isWrongLoop_l61 n mc mq (f + 1) _ _ _ = _; rw [r_Mo_isWrongLoop_l61, hmn, if_pos (i_le.mpr (Int.le_refl _)), gb_tv])
    (fun f Q j hj => by
      show r_Mo_isWrongLoop_l61 n mc mq (f + 1) _ _ _ = r_Mo_isWrongLoop_l61 n mc mq f _ _ _
      rw [r_Mo_isWrongLoop_l61, hmn, if_neg (hge j hj), mo_at hc hu hj hfr, hfr, nI_add, nI_add]
      simp only [Option.bind_some, gr_nI (show fi mc u + j < 256 by omega) h31, gr_nI (show fi mc u + k < 256 by omega) h31, nI_1]
      by_cases q : Q
      · rw [if_neg (by rw [tv_t q]; decide), tvT (Or.inl q)]
      rw [if_pos (tv_f q)]
      by_cases c1 : uN mc u j = 13
      · rw [if_pos ((n13 j).mpr c1), mo_inL hc hu hj hl c1 hfr, kT, Option.bind_some]
        by_cases c2 : inL mc u k j
        · rw [if_neg (by rw [tv_t c2]; decide)]
          by_cases c3 : mc_as_ mc (fi mc u + j) = mc_as_ mc (fi mc u + k)
          · rw [if_pos c3, tvT]; rw [i_eq] at c3; exact Or.inr ⟨c1, c2, c3⟩
          · rw [if_neg c3, tvF q]; rw [i_eq] at c3; exact fun h => c3 h.2.2
        · rw [if_pos (tv_f c2), tvF q (fun h => c2 h.2.1)]
      · rw [if_neg (fun h => c1 ((n13 j).mp h)), tvF q (fun h => c1 h.1)]) (show sz mc u < n by omega)
  have l184 : ∀ l : Int32, r_Mo_isWrongLoop_l184 n mc mq n (nI k) 0 l 0 = some (tv (∃ j, 0 ≤ j ∧ j < sz mc u ∧ uN mc u j = 13 ∧ inL mc u k j ∧ ¬ inL mc u l.toInt j)) ∧ r_Mo_isWrongLoop_l184 n mc mq n (nI k) 1 l 0 = some 1 := fun l =>
    acc0 (R := fun f q j => r_Mo_isWrongLoop_l184 n mc mq f (nI k) q l (nI j)) (S := sz mc u) (P := fun j => uN mc u j = 13 ∧ inL mc u k j ∧ ¬ inL mc u l.toInt j)
    (fun f Q => by show r_Mo_isWrongLoop_l184 n mc mq (f + 1) _ _ _ _ = _; rw [r_Mo_isWrongLoop_l184, hmn, if_pos (i_le.mpr (Int.le_refl _)), gb_tv])
    (fun f Q j hj => by
      show r_Mo_isWrongLoop_l184 n mc mq (f + 1) _ _ _ _ = r_Mo_isWrongLoop_l184 n mc mq f _ _ _ _
      rw [r_Mo_isWrongLoop_l184, hmn, if_neg (hge j hj), mo_at hc hu hj hfr]
      simp only [Option.bind_some, nI_1]
      by_cases q : Q
      · rw [if_neg (by rw [tv_t q]; decide), tvT (Or.inl q)]
      rw [if_pos (tv_f q)]
      by_cases c1 : uN mc u j = 13
      · rw [if_pos ((n13 j).mpr c1)]
        by_cases c0 : nI j = nI k
        · have e : j = k := by rw [i_eq, nI_t (by omega), nI_t (by omega)] at c0; omega
          rw [if_pos c0, tvF q]; rw [e]; unfold inL; omega
        rw [if_neg c0, mo_inL hc hu hj hl c1 hfr, mo_inL hc hu hj hl c1 hfr, kT, Option.bind_some]
        by_cases c2 : inL mc u k j
        · rw [if_neg (by rw [tv_t c2]; decide), Option.bind_some]
          by_cases c3 : inL mc u l.toInt j
          · rw [if_neg (by rw [tv_t c3]; decide), tvF q (fun h => h.2.2 c3)]
          · rw [if_pos (tv_f c3), tvT (Or.inr ⟨c1, c2, c3⟩)]
        · rw [if_pos (tv_f c2), tvF q (fun h => c2 h.2.1)]
      · rw [if_neg (fun h => c1 ((n13 j).mp h)), tvF q (fun h => c1 h.1)]) (show sz mc u < n by omega)
  have l312 := acc0 (R := fun f q j => r_Mo_isWrongLoop_l312 n mc mq f (nI k) q (mc_as_ mc (fi mc u + k)) (nI j)) (S := sz mc u) (P := fun j => uN mc u j = 13 ∧ (uA mc u k = j ∨ inL mc u (uA mc u k) j) ∧ ¬ inL mc u k j)
    (fun f Q => by show r_Mo_isWrongLoop_l312 n mc mq (f + 1) _ _ _ _ = _; rw [r_Mo_isWrongLoop_l312, hmn, if_pos (i_le.mpr (Int.le_refl _)), gb_tv])
    (fun f Q j hj => by
      show r_Mo_isWrongLoop_l312 n mc mq (f + 1) _ _ _ _ = r_Mo_isWrongLoop_l312 n mc mq f _ _ _ _
      have j0 : ¬ (uN mc u j = 13 ∧ (uA mc u k = j ∨ inL mc u (uA mc u k) j)) → r_Mo_isWrongLoop_j355 n mc mq (r_Mo_isWrongLoop_l312 n mc mq f) (nI k) (tv Q) (mc_as_ mc (fi mc u + k)) (nI j) 0 = r_Mo_isWrongLoop_l312 n mc mq f (nI k) (tv (Q ∨ (uN mc u j = 13 ∧ (uA mc u k = j ∨ inL mc u (uA mc u k) j) ∧ ¬ inL mc u k j))) (mc_as_ mc (fi mc u + k)) (nI (j + 1)) := by
        intro h
        unfold r_Mo_isWrongLoop_j355
        rw [nI_1]
        by_cases q : Q
        · rw [if_neg (by rw [tv_t q]; decide), tvT (Or.inl q)]
        · rw [if_pos (tv_f q), if_pos rfl, tvF q (fun z => h ⟨z.1, z.2.1⟩)]
      have j1 : uN mc u j = 13 → (uA mc u k = j ∨ inL mc u (uA mc u k) j) → r_Mo_isWrongLoop_j355 n mc mq (r_Mo_isWrongLoop_l312 n mc mq f) (nI k) (tv Q) (mc_as_ mc (fi mc u + k)) (nI j) 1 = r_Mo_isWrongLoop_l312 n mc mq f (nI k) (tv (Q ∨ (uN mc u j = 13 ∧ (uA mc u k = j ∨ inL mc u (uA mc u k) j) ∧ ¬ inL mc u k j))) (mc_as_ mc (fi mc u + k)) (nI (j + 1)) := by
        intro h h'
        unfold r_Mo_isWrongLoop_j355
        rw [nI_1, mo_inL hc hu hj hl h hfr, kT, Option.bind_some]
        by_cases q : Q
        · rw [if_neg (by rw [tv_t q]; decide), tvT (Or.inl q)]
        · rw [if_pos (tv_f q), if_neg (by decide)]
          by_cases c : inL mc u k j
          · rw [if_neg (by rw [tv_t c]; decide), tvF q (fun z => z.2.2 c)]
          · rw [if_pos (tv_f c), tvT (Or.inr ⟨h, h', c⟩)]
      rw [r_Mo_isWrongLoop_l312, hmn, if_neg (hge j hj), mo_at hc hu hj hfr, Option.bind_some]
      unfold r_Mo_isWrongLoop_j350 r_Mo_isWrongLoop_j354
      by_cases c1 : uN mc u j = 13
      · rw [if_pos ((n13 j).mpr c1)]
        by_cases c0 : mc_as_ mc (fi mc u + k) = nI j
        · rw [if_pos c0]; rw [i_eq, nI_t (by omega), q3] at c0
          exact j1 c1 (Or.inl c0)
        · rw [if_neg c0, mo_inL hc hu hj hl c1 hfr, q3, Option.bind_some]
          rw [i_eq, nI_t (by omega), q3] at c0
          by_cases c2 : inL mc u (uA mc u k) j
          · rw [if_neg (by rw [tv_t c2]; decide)]; exact j1 c1 (Or.inr c2)
          · rw [if_pos (tv_f c2)]; exact j0 (fun z => z.2.elim c0 c2)
      · rw [if_neg (fun h => c1 ((n13 j).mp h))]; exact j0 (fun z => c1 z.1)) (show sz mc u < n by omega)
  have L61 : r_Mo_isWrongLoop_l61 n mc mq n (nI k) 0 0 = some (tv (∃ j, 0 ≤ j ∧ j < sz mc u ∧ uN mc u j = 13 ∧ inL mc u k j ∧ uA mc u j = uA mc u k)) := l61.1
  have L61' : r_Mo_isWrongLoop_l61 n mc mq n (nI k) 1 0 = some 1 := l61.2
  have L312 : r_Mo_isWrongLoop_l312 n mc mq n (nI k) 0 (mc_as_ mc (fi mc u + k)) 0 = some (tv (∃ j, 0 ≤ j ∧ j < sz mc u ∧ uN mc u j = 13 ∧ (uA mc u k = j ∨ inL mc u (uA mc u k) j) ∧ ¬ inL mc u k j)) := l312.1
  have uq : ∀ w : Int32, mc_numbers mc (fi mc u + k) = w ↔ uN mc u k = w.toInt := fun w => by rw [i_eq]; rfl
  unfold r_Mo_isWrongLoop
  rw [mo_at hc hu hks hfr, Option.bind_some, hfr, nI_add, gr_nI (by omega) h31, gr_nI (by omega) h31, L312]
  by_cases c10 : mc_numbers mc (fi mc u + k) = 10
  · rw [if_pos c10]; rw [uq, k10] at c10; refine congrArg some (tv_c ?_); unfold bad7; rw [c10]
    exact ⟨fun h => Or.inr (Or.inr (Or.inr ⟨Or.inl rfl, h⟩)), fun h => by rcases h with h | h | h | h <;> first | exact h.2 | exact absurd h.1 (by decide)⟩
  rw [if_neg c10]
  by_cases c11 : mc_numbers mc (fi mc u + k) = 11
  · rw [if_pos c11]; rw [uq, k11] at c11; refine congrArg some (tv_c ?_); unfold bad7; rw [c11]
    exact ⟨fun h => Or.inr (Or.inr (Or.inr ⟨Or.inr rfl, h⟩)), fun h => by rcases h with h | h | h | h <;> first | exact h.2 | exact absurd h.1 (by decide)⟩
  rw [if_neg c11]
  by_cases c12 : mc_numbers mc (fi mc u + k) = 12
  · rw [if_pos c12, nI_1, mo_same hc hu hks hfr hmn, Option.bind_some, nI_t (by omega), k13, L61, L61']; rw [uq, k12] at c12
    have eqv : (0 ≤ ((k + 1 : Nat) : Int) ∧ ((k + 1 : Nat) : Int) < sz mc u ∧ uN mc u ((k + 1 : Nat) : Int).toNat = 13 ∧ uA mc u ((k + 1 : Nat) : Int).toNat = uA mc u k) ↔ (k + 1 < sz mc u ∧ uN mc u (k + 1) = 13 ∧ uA mc u (k + 1) = uA mc u k) := by
      rw [Int.toNat_natCast]; constructor
      · rintro ⟨-, a, b⟩; exact ⟨by omega, b⟩
      · rintro ⟨a, b⟩; exact ⟨by omega, by omega, b⟩
    rw [tv_c eqv]
    by_cases h : k + 1 < sz mc u ∧ uN mc u (k + 1) = 13 ∧ uA mc u (k + 1) = uA mc u k
    · rw [if_neg (by rw [tv_t h]; decide)]
      refine congrArg some (tv_c ⟨fun z => Or.inl ⟨c12, Or.inr z⟩, ?_⟩)
      unfold bad7; rw [c12]
      rintro (⟨-, z | z⟩ | z | z | z)
      · exact absurd h z
      · exact z
      · exact absurd z.1 (by decide)
      · exact absurd z.1 (by decide)
      · exact absurd z.1 (by decide)
    · rw [if_pos (tv_f h)]; exact s1 (Or.inl ⟨c12, Or.inl h⟩)
  rw [if_neg c12]
  by_cases c13 : mc_numbers mc (fi mc u + k) = 13
  · have d13 := (n13 k).mp c13
    have t := tgt13 hl hks d13
    have hlast : (uB mc u k - 1).toNat < sz mc u := by omega
    rw [if_pos c13, mo_last hc hu hks hl d13 hfr, Option.bind_some, mo_same hc hu hks hfr hmn, Option.bind_some, k12]
    have e1 : (nI k - 1).toInt = (k : Int) - 1 := by rw [i_sub (by rw [kT, k1]; omega) (by rw [kT, k1]; omega), kT, k1]
    have eL : (nI (uB mc u k - 1).toNat).toInt = uB mc u k - 1 := by rw [nI_t (by omega)]; omega
    rw [e1, (l184 _).1, (l184 _).2, eL, mo_at hc hu hlast hfr, Option.bind_some, nI_add, gr_nI (by omega) h31]
    have eqv : (0 ≤ (k : Int) - 1 ∧ (k : Int) - 1 < sz mc u ∧ uN mc u ((k : Int) - 1).toNat = 12 ∧ uA mc u ((k : Int) - 1).toNat = uA mc u k) ↔ (1 ≤ k ∧ uN mc u (k - 1) = 12 ∧ uA mc u (k - 1) = uA mc u k) := by
      rw [show ((k : Int) - 1).toNat = k - 1 by omega]; constructor
      · rintro ⟨a, -, b⟩; exact ⟨by omega, b⟩
      · rintro ⟨a, b⟩; exact ⟨by omega, by omega, b⟩
    rw [tv_c eqv]
    have d14 : mc_numbers mc (fi mc u + (uB mc u k - 1).toNat) = 14 ↔ uN mc u (uB mc u k - 1).toNat = 14 := by rw [i_eq, k14]; rfl
    have dA : mc_as_ mc (fi mc u + (uB mc u k - 1).toNat) = nI k ↔ uA mc u (uB mc u k - 1).toNat = k := by rw [i_eq, kT]; rfl
    by_cases h : 1 ≤ k ∧ uN mc u (k - 1) = 12 ∧ uA mc u (k - 1) = uA mc u k
    · rw [if_neg (by rw [tv_t h]; decide)]
      by_cases h2 : uN mc u (uB mc u k - 1).toNat = 14
      · rw [if_pos (d14.mpr h2)]
        by_cases h3 : uA mc u (uB mc u k - 1).toNat = k
        · rw [if_pos (dA.mpr h3)]
          refine congrArg some (tv_c ⟨fun z => Or.inr (Or.inl ⟨d13, Or.inr (Or.inr z)⟩), ?_⟩)
          unfold bad7; rw [d13]
          rintro (z | ⟨-, z | z | z⟩ | z | z)
          · exact absurd z.1 (by decide)
          · exact absurd h z
          · exact absurd ⟨h2, h3⟩ z
          · exact z
          · exact absurd z.1 (by decide)
          · exact absurd z.1 (by decide)
        · rw [if_neg (fun z => h3 (dA.mp z))]; exact s1 (Or.inr (Or.inl ⟨d13, Or.inr (Or.inl (fun z => h3 z.2))⟩))
      · rw [if_neg (fun z => h2 (d14.mp z))]; exact s1 (Or.inr (Or.inl ⟨d13, Or.inr (Or.inl (fun z => h2 z.1))⟩))
    · rw [if_pos (tv_f h)]; exact s1 (Or.inr (Or.inl ⟨d13, Or.inl h⟩))
  rw [if_neg c13]
  have d13 : ¬ uN mc u k = 13 := fun z => c13 ((n13 k).mpr z)
  by_cases c14 : mc_numbers mc (fi mc u + k) = 14
  · have d14 : uN mc u k = 14 := by rw [uq, k14] at c14; exact c14
    have t := tgt14 hl hks d14
    have hto : (uA mc u k).toNat < sz mc u := by omega
    have ea : mc_as_ mc (fi mc u + k) = nI (uA mc u k).toNat := i_nat t.1
    rw [if_pos c14, ea, mo_at hc hu hto hfr, Option.bind_some, nI_add, gr_nI (by omega) h31, nI_1]
    have dB : mc_bs mc (fi mc u + (uA mc u k).toNat) = nI (k + 1) ↔ uB mc u (uA mc u k).toNat = k + 1 := by rw [i_eq, nI_t (by omega)]; rfl
    have fin : ¬ (uN mc u (uA mc u k).toNat = 13 ∧ uB mc u (uA mc u k).toNat = k + 1) ↔ bad7 mc u k := by
      unfold bad7; rw [d14]
      constructor
      · exact fun z => Or.inr (Or.inr (Or.inl ⟨rfl, z⟩))
      · rintro (z | z | z | z)
        · exact absurd z.1 (by decide)
        · exact absurd z.1 (by decide)
        · exact z.2
        · exact absurd z.1 (by decide)
    by_cases h2 : uN mc u (uA mc u k).toNat = 13
    · rw [if_pos ((n13 _).mpr h2)]
      by_cases h3 : uB mc u (uA mc u k).toNat = k + 1
      · rw [if_pos (dB.mpr h3)]; exact s0 (fun z => fin.mpr z ⟨h2, h3⟩)
      · rw [if_neg (fun z => h3 (dB.mp z))]; exact s1 (fin.mp (fun z => h3 z.2))
    · rw [if_neg (fun z => h2 ((n13 _).mp z))]; exact s1 (fin.mp (fun z => h2 z.1))
  rw [if_neg c14]
  refine s0 ?_
  rw [uq, k10] at c10; rw [uq, k11] at c11; rw [uq, k12] at c12; rw [uq, k14] at c14
  unfold bad7
  rintro (z | z | z | z)
  · exact c12 z.1
  · exact d13 z.1
  · exact c14 z.1
  · exact z.1.elim c10 c11
