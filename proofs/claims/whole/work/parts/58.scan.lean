/-! a scan, both sides; all calls -/
theorem top_run {n : Nat} (hn : 50000 ≤ n) {ko : T_ko} {mc : T_mc} {mq : T_mq} (hc : CodeOK mc) (hk : KoRel ko mc) (h0 : 0 < nU mc) (hG : Good mc mq) {me : T_me} {ru : T_ru} {mr : T_mr} (hR : RS 0 (nU mc - 1) 0 0 0 ru mr) (hfl : ru_fault ru = 0) (hM : MS 0 me mr) :
    ∃ e me' ru' mr', r_Ru_run_l52 n ko n me ru (nI 0) = some (e, me', ru') ∧ FR me' ru' mr' ∧ Kp 0 mr mr' ∧ ((e.toInt < 0 ∧ r_Mo_scan_l99 n mc n mr (nI 0) 0 = some (e, mr_faults_s mr' (mr_faults mr + 1))) ∨ (0 ≤ e.toInt ∧ r_Mo_scan_l99 n mc n mr (nI 0) 0 = some (e, mr_faults_s mr' (mr_faults mr)))) := by
  have h16 := hc.2.1
  obtain ⟨hU, h20⟩ := hG
  have hu : nU mc - 1 < nU mc := by omega
  obtain ⟨g1, hl, ho, g4, g5, g6, g7⟩ := hU _ hu
  have pl0 : plc mc (nU mc - 1) = 0 := Classical.byContradiction fun z => g1 (Or.inl ⟨by omega, z⟩)
  have hF := FrOK_pl hc hU hu (by omega)
  rw [pl0] at hF
  have g5' : 0 ≤ (mq_steps mq (nU mc - 1)).toInt := g5
  obtain ⟨q, eq⟩ : ∃ q : Nat, (q : Int) = wI (mq_steps mq) (nU mc - 1) := ⟨(wI (mq_steps mq) (nU mc - 1)).toNat, by omega⟩
  have hq : q ≤ 20000 := by
    have : wI (mq_steps mq) (nU mc - 1) ≤ 20000 := h20
    omega
  have res := unit_run (n := n) hc hk hU (nU mc - 1) hu 0 0 0 0 q n n 0 me ru mr (by omega) hF hR hfl hM (by omega) eq (by omega) (by omega) (by omega)
  rcases res with ⟨e, me', ru', mr', r1, r2, r3, r4, r5⟩ | ⟨w, f1, f1', tx1, me', ru', mr', r1, r2, r3, r4, r5, r6, r7, r8, r9, r10, r11⟩
  · refine ⟨e, me', ru', mr', r1, r4, r5, Or.inl ⟨r3, ?_⟩⟩
    rw [r2]
    unfold r_Mo_scan_j311 r_Mo_scan_j325
    have ne : ¬ 0 ≤ e := by rw [i_le, k0]; omega
    rw [if_neg ne, if_neg ne, r5.2.2.2.1]
  · obtain ⟨a1, a2, a3, a4, a5, a6, a7⟩ := r7
    match f1, f1', (show 0 < f1 by omega), (show 0 < f1' by omega) with
    | f1 + 1, f1' + 1, _, _ =>
    rw [Nat.zero_add] at a3 a4
    have ew : (nI w).toInt = w := nI_t (by omega)
    have em : nI 0 + (-1) = -1 := by decide
    refine ⟨nI w, me', ru', mr', ?_, ⟨a3.trans a4.symm, r9.2.2.1, r9.2.2.2.2⟩, r10, Or.inr ⟨by omega, ?_⟩⟩
    · rw [r2, r_Ru_run_l52, if_neg (by rw [i_le, nI_t (by omega)]; show ¬ (40002 : Int) ≤ _; omega), if_pos r8, a5, a6, co_size hc hk hu, Option.bind_some, if_pos (by rw [i_le]; omega), a1, if_pos (by decide)]
      unfold r_Ru_run_j107
      rw [if_pos r8, a3]
    · rw [r3, em, r_Mo_scan_l99, if_pos (by decide)]
      unfold r_Mo_scan_j311 r_Mo_scan_j325
      have z0 : (0 : Int32) ≤ 0 := by decide
      rw [if_pos z0, if_pos z0, r10.2.2.2.1]
      have ez : mr_faults mr + 0 = mr_faults mr := Int32.add_zero _
      rw [ez]
      show some (mr_lastSteps mr', _) = _
      rw [a4]
theorem scan_ok {n : Nat} (hn : 50000 ≤ n) {ma : T_ma} {ko : T_ko} {sh : T_sh} {lo : T_lo} {de : T_de} {wa : T_wa} {me : T_me} {ru : T_ru} {mc : T_mc} {mq : T_mq} {mr : T_mr} (h : RelG Good ma ko sh lo de wa me ru mc mq mr) (a : Int32) :
    ∃ (r : Int32) (ma' : T_ma) (me' : T_me) (ru' : T_ru) (mr' : T_mr), r_Sm_scan n ma ko me ru a = some (r, ma', me', ru') ∧ r_Mo_scan n mc mr a = some (r, mr') ∧ RelG Good ma' ko sh lo de wa me' ru' mc mq mr' := by
  have hr := h.2.2
  have hc := h.1
  have hk := h.2.1
  have h16 := hc.2.1
  obtain ⟨h1, h2, h3, h4, h5, h6, h7, h8, h9, h10, h11⟩ := hr
  unfold r_Sm_scan r_Mo_scan
  rw [h2]
  by_cases c1 : mr_runs mr = 0
  · rw [if_pos c1, if_pos c1]; exact ⟨_, _, _, _, _, rfl, rfl, h⟩
  rw [if_neg c1, if_neg c1]
  by_cases c2 : a < 0
  · rw [if_pos c2, if_pos c2]; exact ⟨_, _, _, _, _, rfl, rfl, h⟩
  rw [if_neg c2, if_neg c2]
  by_cases c3 : (100000000 : Int32) < a
  · rw [if_pos c3, if_pos c3]; exact ⟨_, _, _, _, _, rfl, rfl, h⟩
  rw [if_neg c3, if_neg c3]
  rcases h11 with ⟨q, -⟩ | ⟨q1, q2, q3, q4⟩
  · exact absurd q c1
  have a0 : 0 ≤ a.toInt := by rw [i_lt, k0] at c2; omega
  have a1 : a.toInt ≤ 100000000 := by rw [i_lt, show (100000000 : Int32).toInt = 100000000 by decide] at c3; omega
  have e2 : (2000000000 : Int32).toInt = 2000000000 := by decide
  have es : ((2000000000 : Int32) - mr_now mr).toInt = 2000000000 - (mr_now mr).toInt := by rw [i_sub (by rw [e2]; omega) (by rw [e2]; omega), e2]
  have el : ((mr_now mr).toInt64 + a.toInt64).toInt = (mr_now mr).toInt + a.toInt := by rw [l_add (by rw [l_i, l_i]; omega) (by rw [l_i, l_i]; omega), l_i, l_i]
  rw [h3]
  by_cases c4 : (mr_now mr).toInt + a.toInt ≤ 2000000000
  · rw [if_pos (by rw [i_le, es]; omega), if_pos (by rw [lc_le, el, K2000000000]; exact c4)]
    have en : (mr_now mr + a).toInt = (mr_now mr).toInt + a.toInt := i_add (by omega) (by omega)
    have hz : (0 : Int32) = nI 0 := rfl
    have eu : mc_units mc - 1 = nI (nU mc - 1) := by rw [hc.1, show (1 : Int32) = nI 1 from rfl, pk_sub (by omega)]
    have ku : r_Co_unitCount n ko = some (mc_units mc) := by unfold r_Co_unitCount; rw [hk.1]
    -- where both begin
    let me0 : T_me := me_deepest_s (me_depth_s me 0) 0
    let ru0 : T_ru := ru_base_s (ru_next_s (ru_unit_s (ru_fault_s (ru_steps_s (ru_waiting_s (ru_now_s ru (mr_now mr + a)) 0) 0) 0) (nI (nU mc - 1))) 0) 0
    let mrA : T_mr := mr_depth_s (mr_deepest_s (mr_lastSteps_s (mr_scans_s (mr_now_s mr (mr_now mr + a)) (mr_scans mr + 1)) 0) 0) 0
    let mrB : T_mr := mr_nextOf_s (mr_baseOf_s (mr_unitOf_s mrA (upd (mr_unitOf mr) 0 (nI (nU mc - 1)))) (upd (mr_baseOf mr) 0 0)) (upd (mr_nextOf mr) 0 0)
    obtain ⟨e, me', ru', mr', t1, t2, t3, t4⟩ := top_run hn hc hk q2 q4 (me := me0) (ru := ru0) (mr := mrB)
      ⟨rfl, rfl, rfl, rfl, rfl, (show upd (mr_unitOf mr) 0 (nI (nU mc - 1)) 0 = nI (nU mc - 1) from upd_at), rfl, (show upd (mr_nextOf mr) 0 0 0 = nI 0 from upd_at), rfl, (show upd (mr_baseOf mr) 0 0 0 = nI 0 from upd_at), fun j hj => absurd hj (Nat.not_lt_zero j)⟩ rfl ⟨rfl, rfl, rfl, fun j hj => absurd hj (Nat.not_lt_zero j), h8⟩
    have X : r_Ru_run n ko me ru (mr_now mr + a) = some (e, me', ru') := by
      unfold r_Ru_run r_Me_emptyStack
      rw [Option.bind_some, ku, Option.bind_some, eu]
      exact t1
    have Y : (ga (0 : Int32) 20 (ga (0 : Int32) 20 (ga (0 : Int32) 20 (r_Mo_scan_l99 n mc n (mr_nextOf_s (mr_baseOf_s (mr_unitOf_s mrA (upd (mr_unitOf mrA) (0 : Int32).toNatClampNeg (mc_units mc - 1))) (upd (mr_baseOf (mr_unitOf_s mrA (upd (mr_unitOf mrA) (0 : Int32).toNatClampNeg (mc_units mc - 1)))) (0 : Int32).toNatClampNeg 0)) (upd (mr_nextOf (mr_baseOf_s (mr_unitOf_s mrA (upd (mr_unitOf mrA) (0 : Int32).toNatClampNeg (mc_units mc - 1))) (upd (mr_baseOf (mr_unitOf_s mrA (upd (mr_unitOf mrA) (0 : Int32).toNatClampNeg (mc_units mc - 1)))) (0 : Int32).toNatClampNeg 0))) (0 : Int32).toNatClampNeg 0)) 0 0)))) = r_Mo_scan_l99 n mc n mrB (nI 0) 0 := by
      rw [eu, hz, ga_nI (by decide) (by decide), ga_nI (by decide) (by decide), ga_nI (by decide) (by decide), nI_clamp (by decide)]; rfl
    have Kr : mr_runs mr' = 1 := t3.1.trans q1
    have Kn : mr_now mr' = mr_now mr + a := t3.2.1
    have Ks : mr_scans mr' = mr_scans mr + 1 := t3.2.2.1
    have nb : 0 ≤ (mr_now mr').toInt ∧ (mr_now mr').toInt ≤ 2000000000 := by rw [Kn, en]; omega
    obtain ⟨u1, u2, u3⟩ := t2
    rcases t4 with ⟨n1, n2⟩ | ⟨n1, n2⟩
    · refine ⟨e, ma_faults_s (ma_scans_s (ma_now_s ma (mr_now mr + a)) (ma_scans ma + 1)) (ma_faults ma + 1), me', ru', mr_faults_s mr' (mr_faults mr + 1), ?_, ?_, hc, hk, ?_⟩
      · show (r_Ru_run n ko me ru (mr_now mr + a)).bind _ = _
        rw [X, Option.bind_some]
        dsimp only
        rw [if_neg (by rw [i_le, k0]; omega)]; rfl
      · exact Y.trans n2
      · exact ⟨h1, h2.trans (q1.trans Kr.symm), Kn.symm, by show ma_scans ma + 1 = mr_scans mr'; rw [Ks, h4], by show ma_faults ma + 1 = mr_faults mr + 1; rw [h5], u1, u2, u3, nb.1, nb.2, Or.inr ⟨Kr, q2, q3, q4⟩⟩
    · refine ⟨e, ma_scans_s (ma_now_s ma (mr_now mr + a)) (ma_scans ma + 1), me', ru', mr_faults_s mr' (mr_faults mr), ?_, ?_, hc, hk, ?_⟩
      · show (r_Ru_run n ko me ru (mr_now mr + a)).bind _ = _
        rw [X, Option.bind_some]
        dsimp only
        rw [if_pos (by rw [i_le, k0]; omega)]; rfl
      · exact Y.trans n2
      · exact ⟨h1, h2.trans (q1.trans Kr.symm), Kn.symm, by show ma_scans ma + 1 = mr_scans mr'; rw [Ks, h4], by show ma_faults ma = mr_faults mr; rw [h5], u1, u2, u3, nb.1, nb.2, Or.inr ⟨Kr, q2, q3, q4⟩⟩
  · rw [if_neg (by rw [i_le, es]; omega), if_neg (by rw [lc_le, el, K2000000000]; exact c4)]
    exact ⟨_, _, _, _, _, rfl, rfl, h⟩
theorem pure_ok : PureOK 100000 RelW := by
  have hn : 5000 ≤ 100000 := by decide
  refine ⟨?_, fun ma ko sh lo de wa me ru mc mq mr h => ⟨fun a => ?_, fun a b => ?_, fun a b c d => ?_, ?_, fun a => ?_, fun a b => ?_, fun a => ?_, fun a => ?_⟩⟩
  · obtain ⟨r, mc', mr', e1, e2⟩ := init_ok (Good := Good) hn
    exact ⟨r, mc', mr', e1, e2, fun i _ => by show -1 ≤ (0 : Int64).toInt ∧ (0 : Int64).toInt ≤ 1000000003; decide⟩
  · obtain ⟨r, ma', ko', me', ru', mc', mr', e1, e2, e3⟩ := begin_ok hn h.1 a
    exact ⟨r, ma', ko', me', ru', mc', mr', e1, e2, e3, h.2⟩
  · obtain ⟨r, ma', ko', me', ru', mc', mr', e1, e2, e3⟩ := unit_ok hn h.1 a b
    exact ⟨r, ma', ko', me', ru', mc', mr', e1, e2, e3, h.2⟩
  · obtain ⟨r, ma', ko', me', ru', mc', mr', e1, e2, e3⟩ := add_ok hn h.1 a b c d
    exact ⟨r, ma', ko', me', ru', mc', mr', e1, e2, e3, h.2⟩
  · exact start_ok hn h
  · obtain ⟨r, ma', me', ru', mr', e1, e2, e3⟩ := scan_ok (n := 100000) (by decide) h.1 a
    exact ⟨r, ma', me', ru', mr', e1, e2, e3, h.2⟩
  · obtain ⟨r, me', mr', e1, e2, e3⟩ := set_ok h.1 a b
    exact ⟨r, me', mr', e1, e2, e3, h.2⟩
  · obtain ⟨r, e1, e2, e3⟩ := get_ok h.1 a
    exact ⟨r, e1, e2, e3, h.2⟩
  · obtain ⟨r, e1, e2, e3⟩ := count_ok h.1 a
    exact ⟨r, e1, e2, e3, h.2⟩
