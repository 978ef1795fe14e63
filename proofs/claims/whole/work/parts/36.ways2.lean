/-! the class's goOn -/
theorem next_ok {mc : T_mc} {u k : Nat} (ho : loopsOK mc u) (hks : k < sz mc u) (e : uN mc u k = 13) : 1 ≤ k ∧ uN mc u (k - 1) = 12 ∧ uA mc u (k - 1) = uA mc u k ∧ uN mc u (uB mc u k - 1).toNat = 14 ∧ uA mc u (uB mc u k - 1).toNat = k ∧ ∀ j, j < sz mc u → uN mc u j = 13 → inL mc u k j → inL mc u (uB mc u k - 1) j := by
  have h := ho k hks
  unfold bad7 at h
  have h1 : 1 ≤ k ∧ uN mc u (k - 1) = 12 ∧ uA mc u (k - 1) = uA mc u k := Classical.byContradiction fun z => h (Or.inr (Or.inl ⟨e, Or.inl z⟩))
  have h2 : uN mc u (uB mc u k - 1).toNat = 14 ∧ uA mc u (uB mc u k - 1).toNat = k := Classical.byContradiction fun z => h (Or.inr (Or.inl ⟨e, Or.inr (Or.inl z)⟩))
  exact ⟨h1.1, h1.2.1, h1.2.2, h2.1, h2.2, fun j hj e13 hin => Classical.byContradiction fun z => h (Or.inr (Or.inl ⟨e, Or.inr (Or.inr ⟨j, Nat.zero_le _, hj, e13, hin, z⟩)⟩))⟩
theorem count_rg {mc : T_mc} {u k : Nat} (hl : linesOK mc u) (hks : k < sz mc u) (e : uN mc u k = 12) : 0 ≤ uB mc u k ∧ uB mc u k ≤ 1000000 := by
  have := (lineF_0 (hl k hks)).1
  unfold bad2 at this; unfold uN at e; unfold uB; omega
theorem call_rg {mc : T_mc} {u k : Nat} (hl : linesOK mc u) (hks : k < sz mc u) (e : uN mc u k = 15 ∨ uN mc u k = 16) : 0 ≤ uA mc u k ∧ uA mc u k < u := by
  have := (lineF_0 (hl k hks)).2.1
  unfold bad3 at this; unfold uN at e; unfold uA; omega
theorem wa_goOn {n : Nat} {ko : T_ko} {wa : T_wa} {mc : T_mc} (hc : CodeOK mc) (hk : KoRel ko mc) {u k b : Nat} (hu : u < nU mc) (hks : k < sz mc u) (hl : linesOK mc u) (ho : loopsOK mc u) (hwu : wa_unit wa = nI u) (he : wa_end_ wa = nI b) (hb : b ≤ 256) (hr : ∀ i, i < 257 → rch wa i ≤ 1000000001)
    (hrd : -1 ≤ (wa_rounds wa k).toInt ∧ (wa_rounds wa k).toInt ≤ 1000000003) (hst : ∀ a, a < u → -1 ≤ (wa_steps wa a).toInt ∧ (wa_steps wa a).toInt ≤ 1000000001) {v : Int64} (hv : 0 ≤ v.toInt ∧ v.toInt ≤ 1000000002) :
    ∃ g, r_Wa_goOn n ko wa (nI k) v = some (wa_reached_s wa g) ∧ ∀ i, i < 257 → (g i).toInt = rL b (v.toInt - 1) (xE mc u (fun i => (wa_rounds wa i).toInt) (fun a => (wa_steps wa a).toInt) k) (rch wa) i := by
  have hf := fi_le hc hu
  have h16 := hc.2.1
  have uq : ∀ (w : Int32), mc_numbers mc (fi mc u + k) = w ↔ uN mc u k = w.toInt := fun w => by rw [i_eq]; rfl
  have qA : (mc_as_ mc (fi mc u + k)).toInt = uA mc u k := rfl
  have qB : (mc_bs mc (fi mc u + k)).toInt = uB mc u k := rfl
  have k1T : (nI (k + 1)).toInt = (k : Int) + 1 := by rw [nI_t (by omega)]; omega
  -- one reach
  have one : ∀ (x : Int32) (y : Int64) (t w : Int), x.toInt = t → y.toInt = v.toInt - 1 + w → ∃ g, (r_Wa_reach n wa x y).bind (fun q => some q) = some (wa_reached_s wa g) ∧ ∀ i, i < 257 → (g i).toInt = rL b (v.toInt - 1) [(t, w)] (rch wa) i := fun x y t w hx hy => by
    obtain ⟨g, a, c⟩ := wa_reach (n := n) hb he hr (x := x) (v := y)
    rw [a]
    refine ⟨g, rfl, fun i hi => ?_⟩
    rw [c i hi, hx, hy]; rfl
  unfold r_Wa_goOn
  rw [hwu, co_numberAt hc hk hu hks, co_aAt hc hk hu hks, co_size hc hk hu, Option.bind_some, nI_1]
  simp only [Option.bind_some]
  unfold xE
  dsimp only
  by_cases c10 : mc_numbers mc (fi mc u + k) = 10
  · rw [if_pos c10, if_pos (show uN mc u k = 10 by rw [uq, k10] at c10; exact c10)]
    exact one _ _ _ _ qA (by omega)
  rw [if_neg c10, if_neg (show ¬ uN mc u k = 10 from fun z => c10 (by rw [uq, k10]; exact z))]
  by_cases c11 : mc_numbers mc (fi mc u + k) = 11
  · rw [if_pos c11, if_pos (show uN mc u k = 11 by rw [uq, k11] at c11; exact c11)]
    obtain ⟨g, a, c⟩ := wa_reach (n := n) hb he hr (x := mc_as_ mc (fi mc u + k)) (v := v)
    rw [a, Option.bind_some]
    obtain ⟨g2, a2, c2⟩ := wa_reach (n := n) (wa := wa_reached_s wa g) hb he (fun i hi => by show (g i).toInt ≤ _; rw [c i hi]; exact rT_le hr i hi) (x := nI (k + 1)) (v := v)
    rw [a2]
    refine ⟨g2, rfl, fun i hi => ?_⟩
    rw [c2 i hi, k1T]
    show rT b (fun i => (g i).toInt) _ _ i = rT b (rT b (rch wa) (uA mc u k) (v.toInt - 1 + 1)) ((k : Int) + 1) (v.toInt - 1 + 1) i
    rw [show v.toInt - 1 + 1 = v.toInt by omega]
    unfold rT
    dsimp only
    rw [c i hi, qA]; rfl
  rw [if_neg c11, if_neg (show ¬ uN mc u k = 11 from fun z => c11 (by rw [uq, k11]; exact z))]
  by_cases c13 : mc_numbers mc (fi mc u + k) = 13
  · have d13 : uN mc u k = 13 := by rw [uq, k13] at c13; exact c13
    have nx := next_ok ho hks d13
    have cr := count_rg hl (show k - 1 < sz mc u by omega) nx.2.1
    have ek : nI k - 1 = nI (k - 1) := by rw [show (1 : Int32) = nI 1 from rfl, pk_sub nx.1]
    have qn : (mc_bs mc (fi mc u + (k - 1))).toInt = uB mc u (k - 1) := rfl
    rw [if_pos c13, if_pos d13]
    unfold r_Wa_passLoop
    rw [hwu, ek, co_bAt hc hk hu (by omega), co_bAt hc hk hu hks, Option.bind_some]
    by_cases cz : 0 < uB mc u (k - 1)
    · rw [if_pos (by rw [lc_gt, l_i, K0, qn]; exact cz), if_neg (lt0 (by omega)), if_neg (by rw [i_le, nI_t (by omega)]; show ¬ (256 : Int) ≤ _; omega), gr_nI (by omega) h31, if_neg (show ¬ uB mc u (k - 1) ≤ 0 by omega)]
      unfold r_Wa_passLoop_j65
      rw [nI_1]
      by_cases cm : (wa_rounds wa k).toInt = -1
      · rw [if_pos (by rw [lc_eq, Km1]; exact cm), if_pos cm]
        obtain ⟨g, a, c⟩ := one (nI (k + 1)) v ((k : Int) + 1) 1 k1T (by omega)
        exact ⟨g, by rw [a]; rfl, c⟩
      · rw [if_neg (by rw [lc_eq, Km1]; exact cm), if_neg cm]
        have e1 : ((mc_bs mc (fi mc u + (k - 1))).toInt64 - 1).toInt = uB mc u (k - 1) - 1 := by
          rw [l_sub (by rw [l_i, K1, qn]; omega) (by rw [l_i, K1, qn]; omega), l_i, K1, qn]
        have p0 : 0 ≤ (uB mc u (k - 1) - 1) * (wa_rounds wa k).toInt := Int.mul_nonneg (by omega) (by omega)
        have p1 : (uB mc u (k - 1) - 1) * (wa_rounds wa k).toInt ≤ 1000000 * 1000000003 := by
          have a1 : (uB mc u (k - 1) - 1) * (wa_rounds wa k).toInt ≤ 1000000 * (wa_rounds wa k).toInt := Int.mul_le_mul_of_nonneg_right (by omega) (by omega)
          have a2 : 1000000 * (wa_rounds wa k).toInt ≤ 1000000 * 1000000003 := Int.mul_le_mul_of_nonneg_left (by omega) (by omega)
          omega
        have e2 : (((mc_bs mc (fi mc u + (k - 1))).toInt64 - 1) * wa_rounds wa k).toInt = (uB mc u (k - 1) - 1) * (wa_rounds wa k).toInt := by
          rw [l_mul (by rw [e1]; omega) (by rw [e1]; omega), e1]
        have e3 : (v + ((mc_bs mc (fi mc u + (k - 1))).toInt64 - 1) * wa_rounds wa k).toInt = v.toInt + (uB mc u (k - 1) - 1) * (wa_rounds wa k).toInt := by
          rw [l_add (by rw [e2]; omega) (by rw [e2]; omega), e2]
        obtain ⟨g, a, c⟩ := one (nI (k + 1)) _ ((k : Int) + 1) (1 + (uB mc u (k - 1) - 1) * (wa_rounds wa k).toInt) k1T (by rw [e3]; omega)
        exact ⟨g, by rw [a]; rfl, c⟩
    · rw [if_neg (by rw [lc_gt, l_i, K0, qn]; exact cz), if_pos (show uB mc u (k - 1) ≤ 0 by omega)]
      obtain ⟨g, a, c⟩ := one (mc_bs mc (fi mc u + k)) v (uB mc u k) 1 qB (by omega)
      exact ⟨g, by rw [Option.bind_some, a]; rfl, c⟩
  rw [if_neg c13, if_neg (show ¬ uN mc u k = 13 from fun z => c13 (by rw [uq, k13]; exact z))]
  by_cases c14 : mc_numbers mc (fi mc u + k) = 14
  · rw [if_pos c14, if_pos (show uN mc u k = 14 by rw [uq, k14] at c14; exact c14)]
    exact one _ _ _ _ k1T (by rw [l_add (by rw [K1]; omega) (by rw [K1]; omega), K1]; omega)
  rw [if_neg c14, if_neg (show ¬ uN mc u k = 14 from fun z => c14 (by rw [uq, k14]; exact z))]
  have cl : (uN mc u k = 15 ∨ uN mc u k = 16) → ∃ g, ((r_Wa_stepsOf n wa (mc_as_ mc (fi mc u + k))).bind fun q15 => (r_Wa_reach n wa (nI (k + 1)) (v + q15)).bind fun q16 => some q16) = some (wa_reached_s wa g) ∧ ∀ i, i < 257 → (g i).toInt = rL b (v.toInt - 1) [((k : Int) + 1, 1 + (wa_steps wa (uA mc u k).toNat).toInt)] (rch wa) i := fun z => by
    have r := call_rg hl hks z
    have ea : mc_as_ mc (fi mc u + k) = nI (uA mc u k).toNat := i_nat r.1
    have es : r_Wa_stepsOf n wa (mc_as_ mc (fi mc u + k)) = some (wa_steps wa (uA mc u k).toNat) := by
      unfold r_Wa_stepsOf
      rw [ea, if_neg (lt0 (by omega)), if_neg (by rw [i_le, nI_t (by omega)]; show ¬ (16 : Int) ≤ _; omega), gr_nI (by omega) (by decide)]
    have hs := hst (uA mc u k).toNat (by omega)
    rw [es, Option.bind_some]
    exact one _ _ _ _ k1T (by rw [l_add (by omega) (by omega)]; omega)
  by_cases c15 : mc_numbers mc (fi mc u + k) = 15
  · have z : uN mc u k = 15 := by rw [uq, k15] at c15; exact c15
    rw [if_pos c15, if_pos (Or.inl z)]; exact cl (Or.inl z)
  rw [if_neg c15]
  by_cases c16 : mc_numbers mc (fi mc u + k) = 16
  · have z : uN mc u k = 16 := by rw [uq, k16] at c16; exact c16
    rw [if_pos c16, if_pos (Or.inr z)]; exact cl (Or.inr z)
  rw [if_neg c16, if_neg (show ¬ (uN mc u k = 15 ∨ uN mc u k = 16) from fun z => z.elim (fun z => c15 (by rw [uq, k15]; exact z)) (fun z => c16 (by rw [uq, k16]; exact z)))]
  by_cases c18 : mc_numbers mc (fi mc u + k) = 18
  · rw [if_pos c18, if_pos (show uN mc u k = 18 by rw [uq, k18] at c18; exact c18)]
    exact one _ _ _ _ (nI_t (by omega)) (by omega)
  rw [if_neg c18, if_neg (show ¬ uN mc u k = 18 from fun z => c18 (by rw [uq, k18]; exact z))]
  exact one _ _ _ _ k1T (by omega)
