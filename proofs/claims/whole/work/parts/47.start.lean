/-! start: both sides, unit by unit -/
theorem stR_ge {mc : T_mc} {u : Nat} : ∀ (m k : Nat) (dm : Nat → Int32), 0 ≤ (stR mc u m k dm).1.toInt := by
  intro m
  induction m with
  | zero => intro k dm; show 0 ≤ (0 : Int32).toInt; decide
  | succ m ih =>
    intro k dm
    rw [stR]
    split
    · exact ih _ _
    · split
      · exact ih _ _
      · exact sC_ge _ _ _ _
def UnitOK (mc : T_mc) (u : Nat) (st : Nat → Int) : Prop :=
  ¬ bad1 mc u ∧ linesOK mc u ∧ loopsOK mc u ∧ (stR mc u (sz mc u) 0 dm0).1 = 0 ∧ 0 ≤ st u ∧ st u ≤ 1000000000 ∧ ∃ rd : Nat → Int, (∀ i, i < sz mc u → -1 ≤ rd i) ∧ rdOK mc u st rd 0 ∧ st u = stX mc u rd st
theorem UnitOK_c {mc : T_mc} {u : Nat} {st st' : Nat → Int} (h : ∀ a, a ≤ u → st a = st' a) (k : UnitOK mc u st) : UnitOK mc u st' := by
  obtain ⟨k1, k2, k3, k4, k5, k6, rd, r1, r2, r3⟩ := k
  have ex : ∀ j, j < sz mc u → xE mc u rd st j = xE mc u rd st' j := fun j hj => xE_cs k2 hj rfl (fun a ha => h a (by omega))
  refine ⟨k1, k2, k3, k4, by rw [← h u (Nat.le_refl _)]; exact k5, by rw [← h u (Nat.le_refl _)]; exact k6, rd, r1, fun j a b c => ?_, ?_⟩
  · have lk := lst_rg k2 k3 b c
    rw [r2 j a b c]
    exact congrArg rdV (congrFun (wR_x _ _ _ (fun i _ d => ex i (by omega))) _)
  · rw [← h u (Nat.le_refl _), r3]
    exact congrFun (wR_x _ _ _ (fun i _ d => ex i (by omega))) _
theorem i64_inj {x y : Int64} (h : x.toInt = y.toInt) : x = y := Int64.toInt_inj.mp h
theorem unit_step {n : Nat} (hn : 5000 ≤ n) {ma : T_ma} {ko : T_ko} {mc : T_mc} (hc : CodeOK mc) (hk : KoRel ko mc) (ht : ma_total ma = mc_size mc) {u : Nat} (hu : u < nU mc) (sh : T_sh) (lo : T_lo) (de : T_de) {wa : T_wa} {mq : T_mq} (hw : WaOK wa) (hU : ∀ v, v < u → UnitOK mc v (wI (mq_steps mq))) (hs : ∀ v, v < u → wa_steps wa v = mq_steps mq v) :
    ∃ c sh' lo' de' wa' mq', r_Sm_firstFault n ma ko sh lo de wa (nI u) = some (c, sh', lo', de', wa') ∧ r_Mo_unitFault n mc mq (nI u) = some (c, mq') ∧ WaOK wa' ∧ 0 ≤ c.toInt ∧
      (c = 0 → UnitOK mc u (wI (mq_steps mq')) ∧ (∀ v, v < u → mq_steps mq' v = mq_steps mq v) ∧ ∀ v, v ≤ u → wa_steps wa' v = mq_steps mq' v) := by
  have h16 := hc.2.1
  obtain ⟨m1, m2, m3, m4, m5⟩ := mo_unitFault hn hc hu mq
  obtain ⟨sh', s1⟩ := sh_fault hn hc hk hu sh
  unfold r_Sm_firstFault
  rw [ht, s1, Option.bind_some]
  by_cases b1 : bad1 mc u
  · rw [cI_t b1, m1 b1]
    refine ⟨1, sh', lo, de, wa, mq, ?_, rfl, hw, by decide, fun z => absurd z (by decide)⟩
    dsimp only
    rw [if_neg (by decide)]
    unfold r_Sm_firstFault_j26 r_Sm_firstFault_j39
    rw [if_neg (by decide), if_neg (by decide)]
  rw [cI_f b1]
  by_cases b2 : lf mc u 0 (sz mc u) = 0
  · have hl : linesOK mc u := fun k hk => lf_0 (sz mc u) 0 b2 k (Nat.zero_le _) (by omega)
    obtain ⟨lo', l1⟩ := lo_fault hn hc hk hu hl lo
    dsimp only
    rw [if_pos b2, l1, Option.bind_some]
    by_cases b3 : loopsOK mc u
    · obtain ⟨de', d1⟩ := de_fault hn hc hk hu hl de
      rw [cI_t b3]
      unfold r_Sm_firstFault_j26
      rw [if_pos rfl, d1, Option.bind_some]
      unfold r_Sm_firstFault_j39
      dsimp only
      by_cases b4 : (stR mc u (sz mc u) 0 dm0).1 = 0
      · obtain ⟨mq2, f', q1, q2, q3, q4⟩ := m5 b1 hl b3 b4
        have hst : ∀ a, a < u → 0 ≤ (mq_steps mq a).toInt ∧ (mq_steps mq a).toInt ≤ 1000000000 := fun a ha => ⟨(hU a ha).2.2.2.2.1, (hU a ha).2.2.2.2.2.1⟩
        obtain ⟨wa', rd, v, w1, w2, w3, w4, w5, w6⟩ := wa_fault hn hc hk hu hl b3 hw (fun a ha => by rw [hs a ha]; have := hst a ha; omega)
        obtain ⟨v', mq3, rd', W, y1, y2, y3, y4, y5⟩ := mo_stepsOf hn hc hu hl b3 q1 q2 (by rw [q3]; exact hst)
        have hf := fi_le hc hu
        have se := steps_eq hl b3 (rd := rd) (st := wI (wa_steps wa)) (rd' := rd') (st' := wI (mq_steps mq2)) (W := W) (fun i hi => (w5 i (by omega)).1) (fun a ha => by unfold wI; rw [q3, hs a ha]; exact ⟨rfl, (hst a ha).1⟩) w6 y3 y4
        rw [← y5, ← w4] at se
        rw [if_pos b4, w1, Option.bind_some, q4, r_Mo_unitFault_l126, q2, if_pos (by rw [i_le]; omega), y1, Option.bind_some, ga_nI (by omega) (by decide), nI_clamp (by omega), gr_nI (by omega) (by decide)]
        show ∃ c sh' lo' de' wa' mq', _ ∧ (if lg_cmp (vp_updL (mq_steps mq3) u v' u) 1000000000 ≤ 0 then some (0, mq_steps_s mq3 (vp_updL (mq_steps mq3) u v')) else _) = _ ∧ _
        rw [updL_at]
        by_cases b5 : v.toInt ≤ 1000000000
        · have b5' : v'.toInt ≤ 1000000000 := by unfold cap at se; (repeat' split at se) <;> omega
          have ev : v = v' := i64_inj (by unfold cap at se; rw [if_pos b5, if_pos b5'] at se; exact se.2.2)
          rw [cI_t (by rw [← w4]; exact b5), if_pos (by rw [lc_le, K1000000000]; exact b5')]
          refine ⟨0, _, _, _, _, _, rfl, rfl, w2, by decide, fun _ => ⟨?_, fun a ha => ?_, fun a ha => ?_⟩⟩
          · have cg : ∀ a, a < u → wI (wa_steps wa) a = wI (vp_updL (mq_steps mq3) u v') a := fun a ha => by unfold wI; rw [updL_ne (by omega), y2, q3, hs a ha]
            have ex : ∀ j, j < sz mc u → xE mc u rd (wI (wa_steps wa)) j = xE mc u rd (wI (vp_updL (mq_steps mq3) u v')) j := fun j hj => xE_cs hl hj rfl cg
            have e0 : wI (vp_updL (mq_steps mq3) u v') u = v.toInt := by unfold wI; rw [updL_at, ev]
            show UnitOK mc u (wI (vp_updL (mq_steps mq3) u v'))
            refine ⟨b1, hl, b3, b4, by rw [e0]; exact se.1, by rw [e0]; exact b5, rd, fun i hi => (w5 i (by omega)).1, fun j a b c => ?_, ?_⟩
            · have lk := lst_rg hl b3 b c
              rw [w6 j a b c]
              exact congrArg rdV (congrFun (wR_x _ _ _ (fun i _ d => ex i (by omega))) _)
            · rw [e0, w4]
              exact congrFun (wR_x _ _ _ (fun i _ d => ex i (by omega))) _
          · show vp_updL (mq_steps mq3) u v' a = _
            rw [updL_ne (by omega), y2, q3]
          · show wa_steps wa' a = vp_updL (mq_steps mq3) u v' a
            rw [w3]
            by_cases z : a = u
            · rw [z, updL_at, updL_at, ev]
            · rw [updL_ne z, updL_ne z, y2, q3, hs a (by omega)]
        · have b5' : ¬ v'.toInt ≤ 1000000000 := by unfold cap at se; (repeat' split at se) <;> omega
          rw [cI_f (by rw [← w4]; exact b5), if_neg (by rw [lc_le, K1000000000]; exact b5')]
          exact ⟨11, _, _, _, _, _, rfl, rfl, w2, by decide, fun z => absurd z (by decide)⟩
      · obtain ⟨mq', q1, -⟩ := m4 b1 hl b3 b4
        rw [if_neg b4, q1]
        exact ⟨_, _, _, _, _, _, rfl, rfl, hw, stR_ge _ _ _, fun z => absurd z b4⟩
    · obtain ⟨mq', q1, -⟩ := m3 b1 hl b3
      rw [cI_f b3, q1]
      unfold r_Sm_firstFault_j26 r_Sm_firstFault_j39
      dsimp only
      rw [if_neg (by decide), if_neg (by decide)]
      exact ⟨7, _, _, _, _, _, rfl, rfl, hw, by decide, fun z => absurd z (by decide)⟩
  · obtain ⟨mq', q1, -⟩ := m2 b1 b2
    dsimp only
    unfold r_Sm_firstFault_j26 r_Sm_firstFault_j39
    rw [if_neg b2, if_neg b2, if_neg b2, q1]
    exact ⟨_, _, _, _, _, _, rfl, rfl, hw, lf_ge _ _, fun z => absurd z b2⟩
def Good (mc : T_mc) (mq : T_mq) : Prop := (∀ v, v < nU mc → UnitOK mc v (wI (mq_steps mq))) ∧ (mq_steps mq (nU mc - 1)).toInt ≤ 20000
theorem start_l {n : Nat} (hn : 5000 ≤ n) {ma : T_ma} {ko : T_ko} {me : T_me} {ru : T_ru} {mc : T_mc} {mr : T_mr} (hc : CodeOK mc) (hk : KoRel ko mc) (ht : ma_total ma = mc_size mc) (h0 : 0 < nU mc) :
    ∀ (m u f f' : Nat) (sh : T_sh) (lo : T_lo) (de : T_de) (wa : T_wa) (mq : T_mq), u + m = nU mc → m < f → m < f' → WaOK wa → (∀ v, v < u → UnitOK mc v (wI (mq_steps mq))) → (∀ v, v < u → wa_steps wa v = mq_steps mq v) →
    ∃ r ma' sh' lo' de' wa' mq' mr', r_Sm_start_l21 n ko f ma sh lo de wa me ru (nI (nU mc)) (nI u) = some (r, ma', sh', lo', de', wa', me, ru) ∧ r_Mo_start_l16 n mc f' mq mr (nI u) = some (r, mq', mr') ∧ WaOK wa' ∧
      ((ma' = ma ∧ mr' = mr) ∨ (ma' = ma_ready_s (ma_allowed_s ma (mq_steps mq' (nU mc - 1)).toInt32) 1 ∧ mr' = mr_runs_s mr 1 ∧ Good mc mq')) := by
  have h16 := hc.2.1
  intro m
  induction m with
  | zero =>
    intro u f f' sh lo de wa mq a b b' hw hU hs
    match f, f', b, b' with
    | f + 1, f' + 1, _, _ =>
      have eu : u = nU mc := by omega
      subst eu
      have e1 : nI (nU mc) - 1 = nI (nU mc - 1) := by rw [show (1 : Int32) = nI 1 from rfl, pk_sub (by omega)]
      have es : r_Wa_stepsOf n wa (nI (nU mc - 1)) = some (mq_steps mq (nU mc - 1)) := by
        unfold r_Wa_stepsOf
        rw [if_neg (lt0 (by omega)), if_neg (by rw [i_le, nI_t (by omega)]; show ¬ (16 : Int) ≤ _; omega), gr_nI (by omega) (by decide), hs _ (by omega)]
      rw [r_Sm_start_l21, r_Mo_start_l16, if_pos (by rw [i_le]; omega), if_pos (by rw [hc.1, i_le]; omega), hc.1, e1, es, Option.bind_some, gr_nI (by omega) (by decide)]
      by_cases c : lg_cmp (mq_steps mq (nU mc - 1)) 20000 ≤ 0
      · rw [if_pos c, if_pos c]
        rw [lc_le, K20000] at c
        exact ⟨0, _, _, _, _, _, _, _, rfl, rfl, hw, Or.inr ⟨rfl, rfl, hU, c⟩⟩
      · rw [if_neg c, if_neg c]
        exact ⟨12, _, _, _, _, _, _, _, rfl, rfl, hw, Or.inl ⟨rfl, rfl⟩⟩
  | succ m ih =>
    intro u f f' sh lo de wa mq a b b' hw hU hs
    match f, f', b, b' with
    | f + 1, f' + 1, b, b' =>
      obtain ⟨c, sh1, lo1, de1, wa1, mq1, x1, x2, x3, x4, x5⟩ := unit_step hn hc hk ht (show u < nU mc by omega) sh lo de hw hU hs
      rw [r_Sm_start_l21, r_Mo_start_l16, if_neg (by rw [i_le, nI_t (by omega), nI_t (by omega)]; omega), if_neg (by rw [hc.1, i_le, nI_t (by omega), nI_t (by omega)]; omega), x1, x2, Option.bind_some, Option.bind_some, nI_1]
      dsimp only
      by_cases c0 : c = 0
      · obtain ⟨z1, z2, z3⟩ := x5 c0
        rw [if_pos c0, if_pos (by rw [c0]; decide)]
        exact ih (u + 1) f f' sh1 lo1 de1 wa1 mq1 (by omega) (by omega) (by omega) x3 (fun v hv => by
          by_cases e : v = u
          · rw [e]; exact z1
          · exact UnitOK_c (fun a ha => by unfold wI; rw [z2 a (by omega)]) (hU v (by omega))) (fun v hv => z3 v (by omega))
      · have : c.toInt ≠ 0 := fun z => c0 (by rw [i_eq, k0]; exact z)
        rw [if_neg c0, if_neg (by rw [i_le, k0]; omega)]
        exact ⟨c, _, _, _, _, _, _, _, rfl, rfl, x3, Or.inl ⟨rfl, rfl⟩⟩
def RelW : RelT := fun ma ko sh lo de wa me ru mc mq mr => RelG Good ma ko sh lo de wa me ru mc mq mr ∧ WaOK wa
theorem start_ok {n : Nat} (hn : 5000 ≤ n) {ma : T_ma} {ko : T_ko} {sh : T_sh} {lo : T_lo} {de : T_de} {wa : T_wa} {me : T_me} {ru : T_ru} {mc : T_mc} {mq : T_mq} {mr : T_mr} (h : RelW ma ko sh lo de wa me ru mc mq mr) :
    ∃ (r : Int32) (ma' : T_ma) (sh' : T_sh) (lo' : T_lo) (de' : T_de) (wa' : T_wa) (me' : T_me) (ru' : T_ru) (mq' : T_mq) (mr' : T_mr), r_Sm_start n ma ko sh lo de wa me ru = some (r, ma', sh', lo', de', wa', me', ru') ∧ r_Mo_start n mc mq mr = some (r, mq', mr') ∧ RelW ma' ko sh' lo' de' wa' me' ru' mc mq' mr' := by
  obtain ⟨⟨hc, hk, hr⟩, hw⟩ := h
  obtain ⟨ma1, me1, ru1, e1, t1, t2⟩ := halt_ok n hr
  obtain ⟨mr1, e2, s2⟩ := stop_ok hn mr
  have ht : ma_total ma1 = mc_size mc := t1.trans hr.1
  have h16 := hc.2.1
  unfold r_Sm_start r_Mo_start
  rw [e1, e2, Option.bind_some, Option.bind_some]
  have eu : r_Co_unitCount n ko = some (mc_units mc) := by unfold r_Co_unitCount; rw [hk.1]
  rw [eu, Option.bind_some]
  by_cases c : mc_units mc = 0
  · rw [if_pos c, if_pos c]
    exact ⟨13, _, _, _, _, _, _, _, _, _, rfl, rfl, ⟨hc, hk, run0 ht t2 s2⟩, hw⟩
  · rw [if_neg c, if_neg c, hc.1]
    have h0 : 0 < nU mc := by
      rw [hc.1, i_eq, nI_t (by omega), k0] at c; omega
    obtain ⟨r, ma', sh', lo', de', wa', mq', mr', x1, x2, x3, x4⟩ := start_l (n := n) hn (me := me1) (ru := ru1) (mr := mr1) hc hk ht h0 (nU mc) 0 n n sh lo de wa mq (by omega) (by omega) (by omega) hw (fun v hv => absurd hv (Nat.not_lt_zero v)) (fun v hv => absurd hv (Nat.not_lt_zero v))
    refine ⟨r, ma', sh', lo', de', wa', me1, ru1, mq', mr', x1, x2, ⟨hc, hk, ?_⟩, x3⟩
    rcases x4 with ⟨z1, z2⟩ | ⟨z1, z2, z3⟩
    · rw [z1, z2]; exact run0 ht t2 s2
    · obtain ⟨a1, a2, a3, a4, a5, a6, a7, a8⟩ := t2
      obtain ⟨b1, b2, b3, b4, b5, b6, b7⟩ := s2
      rw [z1, z2]
      exact ⟨ht, rfl, by show ma_now ma1 = mr_now mr1; rw [a3, b2], by show ma_scans ma1 = mr_scans mr1; rw [a4, b3], by show ma_faults ma1 = mr_faults mr1; rw [a5, b4], by show _ = mr_lastSteps mr1; rw [a6, b5], by show _ = mr_deepest mr1; rw [a7, b6], fun j hj => by show _ = mr_cells mr1 j; rw [a8 j hj, b7 j hj], by show 0 ≤ (mr_now mr1).toInt; rw [b2]; decide, by show (mr_now mr1).toInt ≤ _; rw [b2]; decide, Or.inr ⟨rfl, h0, rfl, z3⟩⟩
