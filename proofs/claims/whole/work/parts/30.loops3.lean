/-! fault 7: the class's Loops -/
def gInv (mc : T_mc) (u : Nat) (lo : T_lo) (m k : Nat) : Prop := (∀ i, i < m → ∃ j, j < k ∧ lo_nexts lo i = nI j ∧ uN mc u j = 13) ∧ ∀ j, j < k → uN mc u j = 13 → ∃ i, i < m ∧ lo_nexts lo i = nI j
theorem lo_gather_l {n : Nat} {ko : T_ko} {mc : T_mc} (hc : CodeOK mc) (hk : KoRel ko mc) {u : Nat} (hu : u < nU mc) : ∀ (f k m : Nat) (lo : T_lo), k ≤ sz mc u → sz mc u < k + f → lo_unit lo = nI u → lo_loops lo = nI m → m ≤ k → gInv mc u lo m k →
    ∃ lo' m', r_Lo_gatherLoops_l19 n ko f lo (nI (sz mc u)) (nI k) = some lo' ∧ lo_unit lo' = nI u ∧ lo_loops lo' = nI m' ∧ m' ≤ sz mc u ∧ gInv mc u lo' m' (sz mc u) := by
  have hf := fi_le hc hu
  intro f
  induction f with
  | zero => intro k m lo a b; omega
  | succ f ih =>
    intro k m lo a b eu em hmk G
    rw [r_Lo_gatherLoops_l19]
    by_cases e : k = sz mc u
    · rw [if_pos (by rw [e]; exact i_le.mpr (Int.le_refl _))]
      exact ⟨lo, m, rfl, eu, em, by omega, e ▸ G⟩
    · have hks : k < sz mc u := by omega
      rw [if_neg (by rw [i_le, nI_t (by omega), nI_t (by omega)]; omega), em, if_neg (by rw [i_le, nI_t (by omega)]; show ¬ (256 : Int) ≤ _; omega), eu, co_numberAt hc hk hu hks, Option.bind_some]
      have q1 : mc_numbers mc (fi mc u + k) = 13 ↔ uN mc u k = 13 := by rw [i_eq, k13]; rfl
      by_cases c : uN mc u k = 13
      · rw [if_pos (q1.mpr c), ga_nI (by omega) (by decide), nI_clamp (by omega), nI_1]
        refine ih (k + 1) (m + 1) _ (by omega) (by omega) eu ?_ (by omega) ⟨fun i hi => ?_, fun j hj hj13 => ?_⟩
        · show lo_loops lo + 1 = _; rw [em, nI_1]
        · show ∃ j, j < k + 1 ∧ upd (lo_nexts lo) m (nI k) i = nI j ∧ _
          by_cases ei : i = m
          · rw [ei, upd_at]; exact ⟨k, by omega, rfl, c⟩
          · rw [upd_ne ei]; obtain ⟨j, x, y⟩ := G.1 i (by omega); exact ⟨j, by omega, y⟩
        · show ∃ i, i < m + 1 ∧ upd (lo_nexts lo) m (nI k) i = nI j
          by_cases ej : j = k
          · exact ⟨m, by omega, by rw [upd_at, ej]⟩
          · obtain ⟨i, x, y⟩ := G.2 j (by omega) hj13; exact ⟨i, by omega, by rw [upd_ne (by omega)]; exact y⟩
      · rw [if_neg (fun z => c (q1.mp z)), nI_1]
        refine ih (k + 1) m lo (by omega) (by omega) eu em (by omega) ⟨fun i hi => ?_, fun j hj hj13 => ?_⟩
        · obtain ⟨j, x, y⟩ := G.1 i hi; exact ⟨j, by omega, y⟩
        · by_cases ej : j = k
          · exact absurd (ej ▸ hj13) c
          · exact G.2 j (by omega) hj13
theorem lo_inL {n : Nat} {ko : T_ko} {lo : T_lo} {mc : T_mc} (hc : CodeOK mc) (hk : KoRel ko mc) {u j : Nat} {x : Int32} (hu : u < nU mc) (hj : j < sz mc u) (eu : lo_unit lo = nI u) : r_Lo_isIn n ko lo x (nI j) = some (tv (inL mc u x.toInt j)) := by
  have hf := fi_le hc hu
  have q : (mc_bs mc (fi mc u + j)).toInt = uB mc u j := rfl
  unfold r_Lo_isIn inL
  rw [eu, co_bAt hc hk hu hj, Option.bind_some]
  by_cases c1 : x ≤ nI j
  · rw [if_pos c1]; rw [i_le, nI_t (by omega)] at c1; exact s0 (by omega)
  · rw [if_neg c1]; rw [i_le, nI_t (by omega)] at c1
    by_cases c2 : mc_bs mc (fi mc u + j) ≤ x
    · rw [if_pos c2]; rw [i_le, q] at c2; exact s0 (by omega)
    · rw [if_neg c2]; rw [i_le, q] at c2; exact s1 (by omega)
theorem lo_wrong {n : Nat} (hn : 5000 ≤ n) {ko : T_ko} {lo : T_lo} {mc : T_mc} (hc : CodeOK mc) (hk : KoRel ko mc) {u k m : Nat} (hu : u < nU mc) (hks : k < sz mc u) (hl : linesOK mc u) (eu : lo_unit lo = nI u) (em : lo_loops lo = nI m) (hm : m ≤ sz mc u) (G : gInv mc u lo m (sz mc u)) : r_Lo_isWrong n ko lo (nI k) = some (tv (bad7 mc u k)) := by
  have hf := fi_le hc hu
  have kT : (nI k).toInt = (k : Int) := nI_t (by omega)
  have q3 : (mc_as_ mc (fi mc u + k)).toInt = uA mc u k := rfl
  -- the loops' heads by their place in the row
  obtain ⟨nx, nxl⟩ : ∃ nx : Nat → Nat, ∀ i, i < m → nx i < sz mc u ∧ lo_nexts lo i = nI (nx i) ∧ uN mc u (nx i) = 13 := by
    refine ⟨fun i => (lo_nexts lo i).toNatClampNeg, fun i hi => ?_⟩
    obtain ⟨j, a, b, c⟩ := G.1 i hi
    have e : (lo_nexts lo i).toNatClampNeg = j := by rw [b]; exact nI_clamp (by omega)
    show (lo_nexts lo i).toNatClampNeg < _ ∧ lo_nexts lo i = nI (lo_nexts lo i).toNatClampNeg ∧ uN mc u (lo_nexts lo i).toNatClampNeg = 13
    rw [e]; exact ⟨a, b, c⟩
  have tr : ∀ P : Nat → Prop, (∃ i, 0 ≤ i ∧ i < m ∧ P (nx i)) ↔ ∃ j, 0 ≤ j ∧ j < sz mc u ∧ uN mc u j = 13 ∧ P j := fun P => by
    constructor
    · rintro ⟨i, -, a, b⟩; exact ⟨nx i, Nat.zero_le _, (nxl i a).1, (nxl i a).2.2, b⟩
    · rintro ⟨j, -, a, b, c⟩
      obtain ⟨i, x, y⟩ := G.2 j a b
      have e : nx i = j := by
        have := (nxl i x).2.1; rw [y, i_eq, nI_t (by omega), nI_t (by have := (nxl i x).1; omega)] at this; omega
      exact ⟨i, Nat.zero_le _, x, by rw [e]; exact c⟩
  have hge : ∀ i, i < m → ¬ nI m ≤ nI i := fun i hi => by rw [i_le, nI_t (by omega), nI_t (by omega)]; omega
  have l54 := fst_loop (R := fun f i => r_Lo_isWrongCount_l54 n ko lo f (nI k) (mc_as_ mc (fi mc u + k)) (nI i)) (S := m) (P := fun i => inL mc u k (nx i) ∧ uA mc u (nx i) = uA mc u k)
    (fun f => by show r_Lo_isWrongCount_l54 n ko lo (f + 1) _ _ _ = _; rw [r_Lo_isWrongCount_l54, em, if_pos (i_le.mpr (Int.le_refl _))])
    (fun f i hi p => by
      show r_Lo_isWrongCount_l54 n ko lo (f + 1) _ _ _ = _
      obtain ⟨a, b, -⟩ := nxl i hi
      rw [r_Lo_isWrongCount_l54, em, if_neg (hge i hi), gr_nI (by omega) h31, gr_nI (by omega) h31, b, eu, co_aAt hc hk hu a, Option.bind_some, lo_inL hc hk hu a eu, kT, Option.bind_some, if_pos (by rw [i_eq]; exact p.2), if_neg (by rw [tv_t p.1]; decide)])
    (fun f i hi p => by
      show r_Lo_isWrongCount_l54 n ko lo (f + 1) _ _ _ = r_Lo_isWrongCount_l54 n ko lo f _ _ _
      obtain ⟨a, b, -⟩ := nxl i hi
      rw [r_Lo_isWrongCount_l54, em, if_neg (hge i hi), gr_nI (by omega) h31, gr_nI (by omega) h31, b, eu, co_aAt hc hk hu a, Option.bind_some, lo_inL hc hk hu a eu, kT, Option.bind_some, nI_1]
      by_cases c : mc_as_ mc (fi mc u + nx i) = mc_as_ mc (fi mc u + k)
      · rw [if_pos c, if_pos]; rw [i_eq] at c; exact tv_f (fun z => p ⟨z, c⟩)
      · rw [if_neg c]) n 0 (Nat.zero_le _) (by omega)
  have l102 : ∀ l : Int32, r_Lo_isWrongNext_l102 n ko lo n (nI k) l 0 = some (tv (∃ i, 0 ≤ i ∧ i < m ∧ inL mc u k (nx i) ∧ ¬ inL mc u l.toInt (nx i))) := fun l =>
    fst_loop (R := fun f i => r_Lo_isWrongNext_l102 n ko lo f (nI k) l (nI i)) (S := m) (P := fun i => inL mc u k (nx i) ∧ ¬ inL mc u l.toInt (nx i))
    (fun f => by show r_Lo_isWrongNext_l102 n ko lo (f + 1) _ _ _ = _; rw [r_Lo_isWrongNext_l102, em, if_pos (i_le.mpr (Int.le_refl _))])
    (fun f i hi p => by
      show r_Lo_isWrongNext_l102 n ko lo (f + 1) _ _ _ = _
      obtain ⟨a, b, -⟩ := nxl i hi
      rw [r_Lo_isWrongNext_l102, em, if_neg (hge i hi), gr_nI (by omega) h31, gr_nI (by omega) h31, b, lo_inL hc hk hu a eu, lo_inL hc hk hu a eu, kT, Option.bind_some, Option.bind_some, if_neg (by rw [tv_t p.1]; decide), if_pos (tv_f p.2)])
    (fun f i hi p => by
      show r_Lo_isWrongNext_l102 n ko lo (f + 1) _ _ _ = r_Lo_isWrongNext_l102 n ko lo f _ _ _
      obtain ⟨a, b, -⟩ := nxl i hi
      rw [r_Lo_isWrongNext_l102, em, if_neg (hge i hi), gr_nI (by omega) h31, gr_nI (by omega) h31, b, lo_inL hc hk hu a eu, lo_inL hc hk hu a eu, kT, Option.bind_some, Option.bind_some, nI_1]
      by_cases c : inL mc u k (nx i)
      · rw [if_neg (by rw [tv_t c]; decide), if_neg]
        rw [tv_t (Classical.byContradiction fun z => p ⟨c, z⟩)]; decide
      · rw [if_pos (tv_f c)]) n 0 (Nat.zero_le _) (by omega)
  have l2 := fst_loop (R := fun f i => r_Lo_goesIntoLoop_l2 n ko lo f (nI k) (mc_as_ mc (fi mc u + k)) (nI i)) (S := m) (P := fun i => (uA mc u k = nx i ∨ inL mc u (uA mc u k) (nx i)) ∧ ¬ inL mc u k (nx i))
    (fun f => by show r_Lo_goesIntoLoop_l2 n ko lo (f + 1) _ _ _ = _; rw [r_Lo_goesIntoLoop_l2, em, if_pos (i_le.mpr (Int.le_refl _))])
    (fun f i hi p => by
      show r_Lo_goesIntoLoop_l2 n ko lo (f + 1) _ _ _ = _
      obtain ⟨a, b, -⟩ := nxl i hi
      have j39 : r_Lo_goesIntoLoop_j39 n ko lo (r_Lo_goesIntoLoop_l2 n ko lo f) (nI k) (mc_as_ mc (fi mc u + k)) (nI i) 1 = some 1 := by
        unfold r_Lo_goesIntoLoop_j39
        rw [if_neg (by decide), gr_nI (by omega) h31, b, lo_inL hc hk hu a eu, kT, Option.bind_some, if_pos (tv_f p.2)]
      unfold r_Lo_goesIntoLoop_l2 r_Lo_goesIntoLoop_j34
      rw [em, if_neg (hge i hi), gr_nI (by omega) h31, gr_nI (by omega) h31, b, lo_inL hc hk hu a eu, q3, Option.bind_some, j39]
      by_cases c : mc_as_ mc (fi mc u + k) = nI (nx i)
      · rw [if_pos c]
      · rw [if_neg c, if_neg]; rw [i_eq, nI_t (by omega), q3] at c
        rw [tv_t (p.1.elim (fun z => absurd z c) id)]; decide)
    (fun f i hi p => by
      show r_Lo_goesIntoLoop_l2 n ko lo (f + 1) _ _ _ = r_Lo_goesIntoLoop_l2 n ko lo f _ _ _
      obtain ⟨a, b, -⟩ := nxl i hi
      have j1 : inL mc u k (nx i) → r_Lo_goesIntoLoop_j39 n ko lo (r_Lo_goesIntoLoop_l2 n ko lo f) (nI k) (mc_as_ mc (fi mc u + k)) (nI i) 1 = r_Lo_goesIntoLoop_l2 n ko lo f (nI k) (mc_as_ mc (fi mc u + k)) (nI (i + 1)) := by
        intro z
        unfold r_Lo_goesIntoLoop_j39
        rw [if_neg (by decide), gr_nI (by omega) h31, b, lo_inL hc hk hu a eu, kT, Option.bind_some, if_neg (by rw [tv_t z]; decide), nI_1]
      have j0 : r_Lo_goesIntoLoop_j39 n ko lo (r_Lo_goesIntoLoop_l2 n ko lo f) (nI k) (mc_as_ mc (fi mc u + k)) (nI i) 0 = r_Lo_goesIntoLoop_l2 n ko lo f (nI k) (mc_as_ mc (fi mc u + k)) (nI (i + 1)) := by
        unfold r_Lo_goesIntoLoop_j39
        rw [if_pos rfl, nI_1]
      rw [r_Lo_goesIntoLoop_l2]
      unfold r_Lo_goesIntoLoop_j34
      rw [em, if_neg (hge i hi), gr_nI (by omega) h31, gr_nI (by omega) h31, b, lo_inL hc hk hu a eu, q3, Option.bind_some]
      by_cases c : mc_as_ mc (fi mc u + k) = nI (nx i)
      · rw [if_pos c]; rw [i_eq, nI_t (by omega), q3] at c
        exact j1 (Classical.byContradiction fun z => p ⟨Or.inl c, z⟩)
      · rw [if_neg c]; rw [i_eq, nI_t (by omega), q3] at c
        by_cases d : inL mc u (uA mc u k) (nx i)
        · rw [if_neg (by rw [tv_t d]; decide)]; exact j1 (Classical.byContradiction fun z => p ⟨Or.inr d, z⟩)
        · rw [if_pos (tv_f d)]; exact j0) n 0 (Nat.zero_le _) (by omega)
  have L54 : r_Lo_isWrongCount_l54 n ko lo n (nI k) (mc_as_ mc (fi mc u + k)) 0 = some (tv (∃ j, 0 ≤ j ∧ j < sz mc u ∧ uN mc u j = 13 ∧ inL mc u k j ∧ uA mc u j = uA mc u k)) := Eq.trans l54 (congrArg some (tv_c (tr (fun j => inL mc u k j ∧ uA mc u j = uA mc u k))))
  have L102 : ∀ l : Int32, r_Lo_isWrongNext_l102 n ko lo n (nI k) l 0 = some (tv (∃ j, 0 ≤ j ∧ j < sz mc u ∧ uN mc u j = 13 ∧ inL mc u k j ∧ ¬ inL mc u l.toInt j)) := fun l => Eq.trans (l102 l) (congrArg some (tv_c (tr (fun j => inL mc u k j ∧ ¬ inL mc u l.toInt j))))
  have L2 : r_Lo_goesIntoLoop n ko lo (nI k) (mc_as_ mc (fi mc u + k)) = some (tv (∃ j, 0 ≤ j ∧ j < sz mc u ∧ uN mc u j = 13 ∧ (uA mc u k = j ∨ inL mc u (uA mc u k) j) ∧ ¬ inL mc u k j)) := Eq.trans l2 (congrArg some (tv_c (tr (fun j => (uA mc u k = j ∨ inL mc u (uA mc u k) j) ∧ ¬ inL mc u k j))))
  have uq : ∀ (j : Nat) (w : Int32), mc_numbers mc (fi mc u + j) = w ↔ uN mc u j = w.toInt := fun j w => by rw [i_eq]; rfl
  have aq : ∀ (j : Nat) (w : Int32), mc_as_ mc (fi mc u + j) = w ↔ uA mc u j = w.toInt := fun j w => by rw [i_eq]; rfl
  have bq : ∀ (j : Nat) (w : Int32), mc_bs mc (fi mc u + j) = w ↔ uB mc u j = w.toInt := fun j w => by rw [i_eq]; rfl
  unfold r_Lo_isWrong
  rw [eu, co_numberAt hc hk hu hks, co_aAt hc hk hu hks, Option.bind_some, Option.bind_some, L2, Option.bind_some, gb_tv]
  by_cases c10 : mc_numbers mc (fi mc u + k) = 10
  · rw [if_pos c10]; rw [uq, k10] at c10; refine congrArg some (tv_c ?_); unfold bad7; rw [c10]
    exact ⟨fun h => Or.inr (Or.inr (Or.inr ⟨Or.inl rfl, h⟩)), fun h => by rcases h with h | h | h | h <;> first | exact h.2 | exact absurd h.1 (by decide)⟩
  rw [if_neg c10]
  by_cases c11 : mc_numbers mc (fi mc u + k) = 11
  · rw [if_pos c11]; rw [uq, k11] at c11; refine congrArg some (tv_c ?_); unfold bad7; rw [c11]
    exact ⟨fun h => Or.inr (Or.inr (Or.inr ⟨Or.inr rfl, h⟩)), fun h => by rcases h with h | h | h | h <;> first | exact h.2 | exact absurd h.1 (by decide)⟩
  rw [if_neg c11]
  by_cases c12 : mc_numbers mc (fi mc u + k) = 12
  · have d12 : uN mc u k = 12 := by rw [uq, k12] at c12; exact c12
    have fin : (¬ (k + 1 < sz mc u ∧ uN mc u (k + 1) = 13 ∧ uA mc u (k + 1) = uA mc u k) ∨ ∃ j, 0 ≤ j ∧ j < sz mc u ∧ uN mc u j = 13 ∧ inL mc u k j ∧ uA mc u j = uA mc u k) ↔ bad7 mc u k := by
      unfold bad7; rw [d12]
      constructor
      · exact fun z => Or.inl ⟨rfl, z⟩
      · rintro (z | z | z | z)
        · exact z.2
        · exact absurd z.1 (by decide)
        · exact absurd z.1 (by decide)
        · exact absurd z.1 (by decide)
    rw [if_pos c12]
    have key : r_Lo_isWrongCount n ko lo (nI k) = some (tv (bad7 mc u k)) := by
      unfold r_Lo_isWrongCount
      rw [eu, co_aAt hc hk hu hks, Option.bind_some, nI_1]
      by_cases h1 : k + 1 < sz mc u
      · rw [co_numberAt hc hk hu h1, Option.bind_some, co_aAt hc hk hu h1, Option.bind_some, L54]
        by_cases h2 : uN mc u (k + 1) = 13
        · rw [if_pos (by rw [uq, k13]; exact h2)]
          by_cases h3 : uA mc u (k + 1) = uA mc u k
          · rw [if_pos (by rw [aq, q3]; exact h3)]
            refine congrArg some (tv_c ?_); rw [← fin]
            exact ⟨Or.inr, fun z => z.elim (fun z => absurd ⟨h1, h2, h3⟩ z) id⟩
          · rw [if_neg (by rw [aq, q3]; exact h3)]; exact s1 (fin.mp (Or.inl fun z => h3 z.2.2))
        · rw [if_neg (by rw [uq, k13]; exact h2)]; exact s1 (fin.mp (Or.inl fun z => h2 z.2.1))
      · rw [co_numberAt_o hc hk hu (by rw [nI_t (by omega)]; omega), Option.bind_some, if_neg (by decide)]
        exact s1 (fin.mp (Or.inl fun z => h1 z.1))
    rw [key, Option.bind_some, gb_tv]
  rw [if_neg c12]
  by_cases c13 : mc_numbers mc (fi mc u + k) = 13
  · have d13 : uN mc u k = 13 := by rw [uq, k13] at c13; exact c13
    have t := tgt13 hl hks d13
    have hlast : (uB mc u k - 1).toNat < sz mc u := by omega
    have eb : mc_bs mc (fi mc u + k) - 1 = nI (uB mc u k - 1).toNat := by
      have t' : (mc_bs mc (fi mc u + k)).toInt = uB mc u k := rfl
      rw [i_eq, i_sub (by rw [k1, t']; omega) (by rw [k1, t']; omega), nI_t (by omega), k1, t']; omega
    have eL : (nI (uB mc u k - 1).toNat).toInt = uB mc u k - 1 := by rw [nI_t (by omega)]; omega
    have fin : (¬ (1 ≤ k ∧ uN mc u (k - 1) = 12 ∧ uA mc u (k - 1) = uA mc u k) ∨ ¬ (uN mc u (uB mc u k - 1).toNat = 14 ∧ uA mc u (uB mc u k - 1).toNat = k) ∨ ∃ j, 0 ≤ j ∧ j < sz mc u ∧ uN mc u j = 13 ∧ inL mc u k j ∧ ¬ inL mc u (uB mc u k - 1) j) ↔ bad7 mc u k := by
      unfold bad7; rw [d13]
      constructor
      · exact fun z => Or.inr (Or.inl ⟨rfl, z⟩)
      · rintro (z | z | z | z)
        · exact absurd z.1 (by decide)
        · exact z.2
        · exact absurd z.1 (by decide)
        · exact absurd z.1 (by decide)
    rw [if_pos c13]
    have key : r_Lo_isWrongNext n ko lo (nI k) = some (tv (bad7 mc u k)) := by
      unfold r_Lo_isWrongNext
      by_cases h1 : 1 ≤ k
      · have ek : nI k - 1 = nI (k - 1) := by rw [show (1 : Int32) = nI 1 from rfl, pk_sub h1]
        rw [eu, ek, co_numberAt hc hk hu (by omega), Option.bind_some, co_aAt hc hk hu (by omega), Option.bind_some, co_aAt hc hk hu hks, Option.bind_some, co_bAt hc hk hu hks, Option.bind_some, eb, co_numberAt hc hk hu hlast, Option.bind_some, co_aAt hc hk hu hlast, Option.bind_some, L102, eL]
        by_cases h2 : uN mc u (k - 1) = 12
        · rw [if_pos (by rw [uq, k12]; exact h2)]
          by_cases h3 : uA mc u (k - 1) = uA mc u k
          · rw [if_pos (by rw [aq, q3]; exact h3)]
            by_cases h4 : uN mc u (uB mc u k - 1).toNat = 14
            · rw [if_pos (by rw [uq, k14]; exact h4)]
              by_cases h5 : uA mc u (uB mc u k - 1).toNat = k
              · rw [if_pos (by rw [aq, kT]; exact h5)]
                refine congrArg some (tv_c ?_); rw [← fin]
                exact ⟨fun z => Or.inr (Or.inr z), fun z => z.elim (fun z => absurd ⟨h1, h2, h3⟩ z) (fun z => z.elim (fun z => absurd ⟨h4, h5⟩ z) id)⟩
              · rw [if_neg (by rw [aq, kT]; exact h5)]; exact s1 (fin.mp (Or.inr (Or.inl fun z => h5 z.2)))
            · rw [if_neg (by rw [uq, k14]; exact h4)]; exact s1 (fin.mp (Or.inr (Or.inl fun z => h4 z.1)))
          · rw [if_neg (by rw [aq, q3]; exact h3)]; exact s1 (fin.mp (Or.inl fun z => h3 z.2.2))
        · rw [if_neg (by rw [uq, k12]; exact h2)]; exact s1 (fin.mp (Or.inl fun z => h2 z.2.1))
      · have e0 : k = 0 := by omega
        rw [eu, co_numberAt_o hc hk hu (by rw [e0]; exact Or.inl (by decide)), Option.bind_some, if_neg (by decide)]
        exact s1 (fin.mp (Or.inl fun z => h1 z.1))
    rw [key, Option.bind_some, gb_tv]
  rw [if_neg c13]
  have d13 : ¬ uN mc u k = 13 := fun z => c13 (by rw [uq, k13]; exact z)
  by_cases c14 : mc_numbers mc (fi mc u + k) = 14
  · have d14 : uN mc u k = 14 := by rw [uq, k14] at c14; exact c14
    have t := tgt14 hl hks d14
    have hto : (uA mc u k).toNat < sz mc u := by omega
    have ea : mc_as_ mc (fi mc u + k) = nI (uA mc u k).toNat := i_nat t.1
    have fin : ¬ (uN mc u (uA mc u k).toNat = 13 ∧ uB mc u (uA mc u k).toNat = k + 1) ↔ bad7 mc u k := by
      unfold bad7; rw [d14]
      constructor
      · exact fun z => Or.inr (Or.inr (Or.inl ⟨rfl, z⟩))
      · rintro (z | z | z | z)
        · exact absurd z.1 (by decide)
        · exact absurd z.1 (by decide)
        · exact z.2
        · exact absurd z.1 (by decide)
    rw [if_pos c14]
    have key : r_Lo_isWrongBack n ko lo (nI k) = some (tv (bad7 mc u k)) := by
      unfold r_Lo_isWrongBack
      rw [eu, co_aAt hc hk hu hks, Option.bind_some, ea, co_numberAt hc hk hu hto, Option.bind_some, co_bAt hc hk hu hto, Option.bind_some, nI_1]
      by_cases h2 : uN mc u (uA mc u k).toNat = 13
      · rw [if_pos (by rw [uq, k13]; exact h2)]
        by_cases h3 : uB mc u (uA mc u k).toNat = k + 1
        · rw [if_pos (by rw [bq, nI_t (by omega)]; exact h3)]; exact s0 (fun z => fin.mpr z ⟨h2, h3⟩)
        · rw [if_neg (by rw [bq, nI_t (by omega)]; exact h3)]; exact s1 (fin.mp (fun z => h3 z.2))
      · rw [if_neg (by rw [uq, k13]; exact h2)]; exact s1 (fin.mp (fun z => h2 z.1))
    rw [key, Option.bind_some, gb_tv]
  rw [if_neg c14]
  refine s0 ?_
  rw [uq, k10] at c10; rw [uq, k11] at c11; rw [uq, k12] at c12; rw [uq, k14] at c14
  unfold bad7
  rintro (z | z | z | z)
  · exact c12 z.1
  · exact d13 z.1
  · exact c14 z.1
  · exact z.1.elim c10 c11
def loopsOK (mc : T_mc) (u : Nat) : Prop := ∀ k, k < sz mc u → ¬ bad7 mc u k
theorem lo_fault {n : Nat} (hn : 5000 ≤ n) {ko : T_ko} {mc : T_mc} (hc : CodeOK mc) (hk : KoRel ko mc) {u : Nat} (hu : u < nU mc) (hl : linesOK mc u) (lo : T_lo) : ∃ lo', r_Lo_faultOf n ko lo (nI u) = some (cI (loopsOK mc u) 0 7, lo') := by
  have hf := fi_le hc hu
  unfold r_Lo_faultOf r_Lo_gatherLoops
  rw [show lo_unit (lo_loops_s (lo_unit_s lo (nI u)) 0) = nI u from rfl, co_size hc hk hu, Option.bind_some]
  obtain ⟨lo', m, e1, e2, e3, e4, G⟩ := lo_gather_l (n := n) hc hk hu n 0 0 (lo_loops_s (lo_unit_s lo (nI u)) 0) (Nat.zero_le _) (by omega) rfl rfl (Nat.le_refl _) ⟨fun i hi => absurd hi (Nat.not_lt_zero i), fun j hj => absurd hj (Nat.not_lt_zero j)⟩
  rw [show (0 : Int32) = nI 0 from rfl] at e1 ⊢
  rw [e1, Option.bind_some, e2, co_size hc hk hu, Option.bind_some]
  refine ⟨lo', ?_⟩
  have loop : ∀ (f k : Nat), k ≤ sz mc u → sz mc u < k + f → (∀ j, j < k → ¬ bad7 mc u j) → r_Lo_faultOf_l23 n ko f lo' (nI (sz mc u)) (nI k) = some (cI (loopsOK mc u) 0 7, lo') := by
    intro f
    induction f with
    | zero => intro k a b; omega
    | succ f ih =>
      intro k a b h
      rw [r_Lo_faultOf_l23]
      by_cases e : k = sz mc u
      · rw [if_pos (by rw [e]; exact i_le.mpr (Int.le_refl _)), cI_t (show loopsOK mc u from fun j hj => h j (by omega))]
      · rw [if_neg (by rw [i_le, nI_t (by omega), nI_t (by omega)]; omega), lo_wrong hn hc hk hu (by omega) hl e2 e3 e4 G, Option.bind_some]
        by_cases c : bad7 mc u k
        · rw [if_neg (by rw [tv_t c]; decide), cI_f (fun z => z k (by omega) c)]
        · rw [if_pos (tv_f c), nI_1]
          refine ih (k + 1) (by omega) (by omega) (fun j hj => ?_)
          by_cases ej : j = k
          · rw [ej]; exact c
          · exact h j (by omega)
  exact loop n 0 (Nat.zero_le _) (by omega) (fun j hj => absurd hj (Nat.not_lt_zero j))
