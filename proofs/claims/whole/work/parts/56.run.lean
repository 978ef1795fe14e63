/-! a scan: a unit's run, both sides -/
/-- at a unit's end -/
def RE (m u i s : Nat) (ru : T_ru) (mr : T_mr) : Prop :=
  ru_waiting ru = nI m ∧ ru_now ru = mr_now mr ∧ ru_steps ru = nI s ∧ mr_lastSteps mr = nI s ∧ ru_unit ru = nI u ∧ ru_next ru = nI i ∧
  ∀ j, j < m → ru_waitingUnits ru j = mr_unitOf mr j ∧ ru_waitingNexts ru j = mr_nextOf mr j ∧ ru_waitingBases ru j = mr_baseOf mr j
def ResR (n : Nat) (ko : T_ko) (mc : T_mc) (u m bs D0 sA q f f' tx : Nat) (me : T_me) (ru : T_ru) (mr : T_mr) : Prop :=
  (∃ e me' ru' mr', r_Ru_run_l52 n ko f me ru (nI tx) = some (e, me', ru') ∧ r_Mo_scan_l99 n mc f' mr (nI m) 0 = r_Mo_scan_j311 n mc mr' e ∧ e.toInt < 0 ∧ FR me' ru' mr' ∧ Kp 0 mr mr') ∨
  (∃ w f1 f1' tx1 me' ru' mr', w ≤ q ∧ r_Ru_run_l52 n ko f me ru (nI tx) = r_Ru_run_l52 n ko f1 me' ru' (nI tx1) ∧ r_Mo_scan_l99 n mc f' mr (nI m) 0 = r_Mo_scan_l99 n mc f1' mr' (nI m + (-1)) 0 ∧ f ≤ f1 + 2 * w ∧ f' ≤ f1' + 2 * w + 1 ∧ tx1 ≤ tx + 2 * w ∧
    RE m u (sz mc u) (sA + w) ru' mr' ∧ ru_fault ru' = 0 ∧ MS D0 me' mr' ∧ Kp m mr mr' ∧ ∀ j, mr_cells mr' j ≠ mr_cells mr j → InW mc u bs j)
theorem Kp_0 {m : Nat} {a b c : T_mr} (h : Kp m a b) (k : Kp 0 b c) : Kp 0 a c := Kp_t (Kp_m (Nat.zero_le _) h) k
theorem ResR_pre {n : Nat} {ko : T_ko} {mc : T_mc} {u m bs D0 sA q f f' tx f2 f2' tx2 c : Nat} {me me2 : T_me} {ru ru2 : T_ru} {mr mr2 : T_mr} (hx : r_Ru_run_l52 n ko f me ru (nI tx) = r_Ru_run_l52 n ko f2 me2 ru2 (nI tx2)) (hy : r_Mo_scan_l99 n mc f' mr (nI m) 0 = r_Mo_scan_l99 n mc f2' mr2 (nI m) 0) (hc : c ≤ q) (h1 : f ≤ f2 + 2 * c) (h2 : f' ≤ f2' + 2 * c) (h3 : tx2 ≤ tx + 2 * c) (hK : Kp m mr mr2) (hW : ∀ j, mr_cells mr2 j ≠ mr_cells mr j → InW mc u bs j)
    (h : ResR n ko mc u m bs D0 (sA + c) (q - c) f2 f2' tx2 me2 ru2 mr2) : ResR n ko mc u m bs D0 sA q f f' tx me ru mr := by
  rcases h with ⟨e, me', ru', mr', a1, a2, a3, a4, a5⟩ | ⟨w, f1, f1', tx1, me', ru', mr', a1, a2, a3, a4, a5, a6, a7, a8, a9, a10, a11⟩
  · exact Or.inl ⟨e, me', ru', mr', hx.trans a1, hy.trans a2, a3, a4, Kp_0 hK a5⟩
  · refine Or.inr ⟨c + w, f1, f1', tx1, me', ru', mr', by omega, hx.trans a2, hy.trans a3, by omega, by omega, by omega, by rw [← Nat.add_assoc]; exact a7, a8, a9, Kp_t hK a10, fun j hj => ?_⟩
    by_cases z : mr_cells mr2 j = mr_cells mr j
    · exact a11 j (by rw [z]; exact hj)
    · exact hW j z
theorem run_end {n : Nat} {mc : T_mc} (hc : CodeOK mc) {u m bs s f' : Nat} {ru : T_ru} {mr : T_mr} (hu : u < nU mc) (hm : m < 20) (hR : RS m u bs (sz mc u) s ru mr) : r_Mo_scan_l99 n mc (f' + 1) mr (nI m) 0 = r_Mo_scan_l99 n mc f' mr (nI m + (-1)) 0 := by
  have hf := fi_le hc hu
  have h16 := hc.2.1
  have hF1 := hc.2.2.2.2.2.2.1 u (by omega)
  have hF2 := hc.2.2.2.2.2.2.1 (u + 1) (by omega)
  have h256 := hc.2.2.2.1
  rw [r_Mo_scan_l99, if_neg (lt0 (by omega)), if_pos rfl, gr_nI hm (by decide), gr_nI hm (by decide), hR.2.2.2.2.2.1, hR.2.2.2.2.2.2.2.1, nI_1, gr_nI (by omega) (by decide), gr_nI (by omega) (by decide), hF1, hF2, pk_sub hf.1, if_neg (by rw [i_lt]; show ¬ (nI (sz mc u)).toInt < (nI (sz mc u)).toInt; omega)]
/-- the reference's turn at an instruction -/
theorem mo_turn {n : Nat} {mc : T_mc} (hc : CodeOK mc) {u m bs i s f' : Nat} {ru : T_ru} {mr : T_mr} (hu : u < nU mc) (hi : i < sz mc u) (hm : m < 20) (hR : RS m u bs i s ru mr) : r_Mo_scan_l99 n mc (f' + 1) mr (nI m) 0 =
    if mc_numbers mc (fi mc u + i) = 15 then r_Mo_scan_j207 n mc (r_Mo_scan_l99 n mc f') (mr1 mr m i s) (nI m) 0 (nI (fi mc u + i)) else if mc_numbers mc (fi mc u + i) = 16 then r_Mo_scan_j207 n mc (r_Mo_scan_l99 n mc f') (mr1 mr m i s) (nI m) 0 (nI (fi mc u + i)) else if mc_numbers mc (fi mc u + i) = 18 then r_Mo_scan_l99 n mc f' (mr1 mr m i s) (nI m + (-1)) 0
      else (r_Mo_act n mc (mr1 mr m i s) (nI (fi mc u + i)) (nI m)).bind (fun q42 => r_Mo_scan_l99 n mc f' q42.2 (nI m) q42.1) := by
  have hf := fi_le hc hu
  have h16 := hc.2.1
  have hF1 := hc.2.2.2.2.2.2.1 u (by omega)
  have hF2 := hc.2.2.2.2.2.2.1 (u + 1) (by omega)
  have h256 := hc.2.2.2.1
  have hp : fi mc u + i < 256 := by omega
  have e : mr_nextOf_s (mr_lastSteps_s mr (mr_lastSteps mr + 1)) (upd (mr_nextOf (mr_lastSteps_s mr (mr_lastSteps mr + 1))) m (nI i + 1)) = mr1 mr m i s := by
    rw [hR.2.2.2.1, nI_1, nI_1]; rfl
  rw [r_Mo_scan_l99, if_neg (lt0 (by omega)), if_pos rfl, gr_nI hm (by decide), gr_nI hm (by decide), hR.2.2.2.2.2.1, hR.2.2.2.2.2.2.2.1, nI_1, gr_nI (by omega) (by decide), gr_nI (by omega) (by decide), hF1, hF2, pk_sub hf.1, if_pos (by rw [i_lt, nI_t (by omega)]; show _ < (nI (sz mc u)).toInt; rw [nI_t (by omega)]; omega), gr_nI (by omega) (by decide), ga_nI hm (by decide), hF1, nI_add, gr_nI hp h31, gr_nI hp h31, gr_nI hp h31, nI_clamp (by omega), e]
/-- the class's turn at an instruction -/
theorem ru_turn {n : Nat} {ko : T_ko} {mc : T_mc} (hc : CodeOK mc) (hk : KoRel ko mc) {u m bs i s f tx : Nat} {me : T_me} {ru : T_ru} {mr : T_mr} (hu : u < nU mc) (hi : i < sz mc u) (htx : tx ≤ 40001) (hfl : ru_fault ru = 0) (hR : RS m u bs i s ru mr) : r_Ru_run_l52 n ko (f + 1) me ru (nI tx) = (r_Ru_step n ko me ru).bind (fun q8 => r_Ru_run_l52 n ko f q8.1 q8.2 (nI (tx + 1))) := by
  have hf := fi_le hc hu
  rw [r_Ru_run_l52, if_neg (by rw [i_le, nI_t (by omega)]; show ¬ (40002 : Int) ≤ _; omega), if_pos hfl, hR.2.2.2.2.1, hR.2.2.2.2.2.2.1, co_size hc hk hu, Option.bind_some, if_neg (by rw [i_le, nI_t (by omega), nI_t (by omega)]; omega), nI_1]
theorem ru_fin {n : Nat} {ko : T_ko} {f tx : Nat} {me : T_me} {ru : T_ru} {e : Int32} (htx : tx ≤ 40002) (he : ru_fault ru = e) (h0 : e ≠ 0) : r_Ru_run_l52 n ko (f + 1) me ru (nI tx) = some (e, me, ru) := by
  have j : r_Ru_run_j107 n ko me ru = some (e, me, ru) := by unfold r_Ru_run_j107; rw [he, if_neg h0]
  rw [r_Ru_run_l52, he, if_neg h0, j]; split <;> rfl
theorem eff_suc {mc : T_mc} {u bs i t : Nat} {f f' dF : Nat → Int32} (hl : linesOK mc u) (hi : i < sz mc u) (hC : ChkD mc u dF i) (hE : Eff mc u bs i t f f') : sucD (sz mc u) dF (dB mc u i (dF i)) t := by
  rcases hE with ⟨e, et, -⟩ | ⟨e, et, -⟩ | ⟨e, et, -⟩ | ⟨e, et, -⟩ | ⟨e, hh⟩
  · subst et; exact hC.2.2.1 ⟨by omega, by omega, by omega⟩
  · refine hC.2.2.2 t ?_
    unfold uT; rw [if_pos (by omega)]; congr 1; omega
  · rcases et with et | et
    · refine hC.2.2.2 t ?_
      unfold uT; rw [if_pos (by omega)]; congr 1; omega
    · subst et; exact hC.2.2.1 ⟨by omega, by omega, by omega⟩
  · subst et; exact hC.2.2.1 ⟨by omega, by omega, by omega⟩
  · rcases hh with ⟨-, et, -⟩ | ⟨-, et, -⟩
    · refine hC.2.2.2 t ?_
      have := tgt13 hl hi e
      unfold uT; rw [if_neg (by omega), if_pos e]; congr 1; omega
    · subst et; exact hC.2.2.1 ⟨by omega, by omega, by omega⟩
theorem eff_W {mc : T_mc} {u bs i t : Nat} {f f' : Nat → Int32} (hl : linesOK mc u) (hi : i < sz mc u) (hE : Eff mc u bs i t f f') : ∀ j, f' j ≠ f j → InW mc u bs j := by
  intro j hj
  rcases hE with ⟨-, -, ec⟩ | ⟨-, -, ef⟩ | ⟨-, -, ef⟩ | ⟨e, -, ef⟩ | ⟨e, hh⟩
  · exact (ec j hj).2
  · rw [ef] at hj; exact absurd rfl hj
  · rw [ef] at hj; exact absurd rfl hj
  · have cr := ctr_rg hl hi (Or.inl e)
    have ej : j = bs + (uA mc u i).toNat := Classical.byContradiction fun z => hj (by rw [ef, upd_ne z])
    exact Or.inl (by omega)
  · rcases hh with ⟨-, -, ef⟩ | ⟨-, -, ef⟩
    · rw [ef] at hj; exact absurd rfl hj
    · have cr := ctr_rg hl hi (Or.inr e)
      have ej : j = bs + (uA mc u i).toNat := Classical.byContradiction fun z => hj (by rw [ef, upd_ne z])
      exact Or.inl (by omega)
theorem pot_le13 {mc : T_mc} {u bs : Nat} {rd st r : Nat → Int} (hl : linesOK mc u) (ho : loopsOK mc u) (hrd : ∀ i, -1 ≤ rd i) (hst : ∀ i, -1 ≤ st i) (hr : wInv mc u rd st 0 (sz mc u) (sz mc u) r) (hS : r (sz mc u) ≤ 1000000000) (hA : rdOK mc u st rd 0) {i : Nat} {s : Int} {f : Nat → Int32} (hp : PosOK mc u bs rd r i s f) : s ≤ r (sz mc u) := by
  by_cases c : i < sz mc u ∧ uN mc u i = 13
  · have nx := next_ok ho c.1 c.2
    have lk := lst_rg hl ho c.1 c.2
    by_cases z : f (bs + (uA mc u i).toNat) = 0
    · have hp2 := pot_step (bs := bs) hl ho hrd hst hr hS hA (t := lst mc u i + 1) (f' := f) hp c.1 (Or.inr (Or.inr (Or.inr (Or.inr ⟨c.2, Or.inl ⟨z, by omega, rfl⟩⟩))))
      have := pot_le (bs := bs) hl ho hrd hst hr hS hA hp2 (fun w => by
        have := no13 ho w
        rw [Nat.add_sub_cancel, show uN mc u (lst mc u i) = 14 from nx.2.2.2.1] at this; omega)
      omega
    · have hp2 := pot_step (bs := bs) hl ho hrd hst hr hS hA (t := i + 1) (f' := upd f (bs + (uA mc u i).toNat) (f (bs + (uA mc u i).toNat) - 1)) hp c.1 (Or.inr (Or.inr (Or.inr (Or.inr ⟨c.2, Or.inr ⟨z, rfl, rfl⟩⟩))))
      have := pot_le (bs := bs) hl ho hrd hst hr hS hA hp2 (fun w => by
        have := no13 ho w
        rw [Nat.add_sub_cancel] at this; omega)
      omega
  · exact pot_le (bs := bs) hl ho hrd hst hr hS hA hp c
/-- the beginning of a unit -/
theorem pot_0 {mc : T_mc} {u bs : Nat} {rd st r : Nat → Int} (ho : loopsOK mc u) (hr : wInv mc u rd st 0 (sz mc u) (sz mc u) r) (f : Nat → Int32) : PosOK mc u bs rd r 0 0 f := by
  have z : ∀ k, ¬ inLp mc u k 0 := fun k h => by have := h.2.1; omega
  refine ⟨Nat.zero_le _, by rw [hr.1]; decide, fun k _ h => absurd h (z k), fun a b => ?_, fun _ => ?_⟩
  · have := next_ok ho a b; omega
  · have : sm mc u bs rd f 0 = 0 := by
      have g : ∀ n, sumTo n (tmS mc u bs rd f 0) = 0 := by
        intro n
        induction n with
        | zero => rfl
        | succ n ih => rw [sumTo, ih]; unfold tmS; rw [if_neg (z n)]; rfl
      exact g _
    rw [this, hr.1]; decide
/-- the class begins a unit -/
theorem descend_ok {n m u bs i s a b : Nat} {ru : T_ru} {mr : T_mr} (hm : m < 16) (hR : RS m u bs (i + 1) s ru mr) : ∃ ru', r_Ru_descend n ru (nI a) (nI b) = some ru' ∧ ru_fault ru' = ru_fault ru ∧
    RS (m + 1) a b 0 s ru' (mr_nextOf_s (mr_baseOf_s (mr_unitOf_s mr (upd (mr_unitOf mr) (m + 1) (nI a))) (upd (mr_baseOf mr) (m + 1) (nI b))) (upd (mr_nextOf mr) (m + 1) 0)) := by
  obtain ⟨h1, h2, h3, h4, h5, h6, h7, h8, h9, h10, h11⟩ := hR
  let ru' : T_ru := ru_base_s (ru_next_s (ru_unit_s (ru_waiting_s (ru_waitingBases_s (ru_waitingNexts_s (ru_waitingUnits_s ru (upd (ru_waitingUnits ru) m (nI u))) (upd (ru_waitingNexts ru) m (nI (i + 1)))) (upd (ru_waitingBases ru) m (nI bs))) (nI (m + 1))) (nI a)) 0) (nI b)
  have e : r_Ru_descend n ru (nI a) (nI b) = some ru' := by
    unfold r_Ru_descend
    rw [h1, if_neg (lt0 (by omega)), if_pos (by rw [i_lt, nI_t (by omega)]; show _ < (16 : Int); omega), ga_nI hm (by decide)]
    show ga (ru_waiting ru) 16 (ga (ru_waiting ru) 16 (some (ru_base_s (ru_next_s (ru_unit_s (ru_waiting_s (ru_waitingBases_s (ru_waitingNexts_s (ru_waitingUnits_s ru (upd (ru_waitingUnits ru) (nI m).toNatClampNeg (ru_unit ru))) (upd (ru_waitingNexts ru) (ru_waiting ru).toNatClampNeg (ru_next ru))) (upd (ru_waitingBases ru) (ru_waiting ru).toNatClampNeg (ru_base ru))) (ru_waiting ru + 1)) (nI a)) 0) (nI b)))) = _
    rw [h1, h5, h7, h9, ga_nI hm (by decide), ga_nI hm (by decide), nI_clamp (by omega), nI_1]
  refine ⟨ru', e, rfl, rfl, h2, h3, h4, rfl, ?_, rfl, ?_, rfl, ?_, fun j hj => ?_⟩
  · show upd (mr_unitOf mr) (m + 1) (nI a) (m + 1) = _; exact upd_at
  · show upd (mr_nextOf mr) (m + 1) 0 (m + 1) = nI 0; exact upd_at
  · show upd (mr_baseOf mr) (m + 1) (nI b) (m + 1) = _; exact upd_at
  · show upd (ru_waitingUnits ru) m (nI u) j = upd (mr_unitOf mr) (m + 1) (nI a) j ∧ upd (ru_waitingNexts ru) m (nI (i + 1)) j = upd (mr_nextOf mr) (m + 1) 0 j ∧ upd (ru_waitingBases ru) m (nI bs) j = upd (mr_baseOf mr) (m + 1) (nI b) j
    rw [upd_ne (f := mr_unitOf mr) (by omega), upd_ne (f := mr_nextOf mr) (by omega), upd_ne (f := mr_baseOf mr) (by omega)]
    by_cases z : j = m
    · rw [z, upd_at, upd_at, upd_at, h6, h8, h10]; exact ⟨rfl, rfl, rfl⟩
    · rw [upd_ne z, upd_ne z, upd_ne z]; exact h11 j (by omega)
/-- the reference begins a unit -/
theorem mo_begin_unit {n : Nat} {mc : T_mc} {m u bs i s a b : Nat} {ru : T_ru} {mr : T_mr} {k99 : T_mr → Int32 → Int32 → Option (Int32 × T_mr)} (hm : m < 18) (hp : fi mc u + i < 256) (hR : RS m u bs (i + 1) s ru mr) (ea : mc_as_ mc (fi mc u + i) = nI a) (ha : a < 16)
    (hb : (mc_numbers mc (fi mc u + i) = 15 ∧ nI bs + mc_bs mc (fi mc u + i) = nI b) ∨ (mc_numbers mc (fi mc u + i) ≠ 15 ∧ mc_places mc a = nI b)) :
    r_Mo_scan_j207 n mc k99 mr (nI m) 0 (nI (fi mc u + i)) = k99 (mr_nextOf_s (mr_baseOf_s (mr_unitOf_s mr (upd (mr_unitOf mr) (m + 1) (nI a))) (upd (mr_baseOf mr) (m + 1) (nI b))) (upd (mr_nextOf mr) (m + 1) 0)) (nI (m + 1)) 0 := by
  have hb0 : mr_baseOf mr m = nI bs := hR.2.2.2.2.2.2.2.2.2.1
  unfold r_Mo_scan_j207 r_Mo_scan_j271
  rw [gr_nI hp h31, nI_1, ga_nI (by omega) (by decide), gr_nI hp h31, nI_clamp (by omega), nI_pred]
  rcases hb with ⟨c, e⟩ | ⟨c, e⟩
  · rw [if_pos c]
    show gr (mr_baseOf mr) (nI m) 20 _ = _
    rw [gr_nI (by omega) (by decide), gr_nI hp h31, ga_nI (by omega) (by decide), ga_nI (by omega) (by decide), hb0, e, ea]; rfl
  · rw [if_neg c, gr_nI hp h31, ea, gr_nI (by omega) (by decide), ga_nI (by omega) (by decide), ga_nI (by omega) (by decide), e]; rfl
theorem go_back {n : Nat} {ko : T_ko} {mc : T_mc} (hc : CodeOK mc) (hk : KoRel ko mc) {m u a bs i s f tx : Nat} {me : T_me} {ru : T_ru} {mr0 mr : T_mr} (hm : m < 16) (ha : a < nU mc) (htx : tx ≤ 40001) (hfl : ru_fault ru = 0) (hE : RE (m + 1) a (sz mc a) s ru mr) (h6 : mr_unitOf mr0 m = nI u) (h8 : mr_nextOf mr0 m = nI i) (h10 : mr_baseOf mr0 m = nI bs) (hK : Kp (m + 1) mr0 mr) :
    ∃ ru', r_Ru_run_l52 n ko (f + 1) me ru (nI tx) = r_Ru_run_l52 n ko f me ru' (nI (tx + 1)) ∧ ru_fault ru' = 0 ∧ RS m u bs i s ru' mr := by
  obtain ⟨e1, e2, e3, e4, e5, e6, e7⟩ := hE
  obtain ⟨k1, k2, k3, k4, k5⟩ := hK
  obtain ⟨q1, q2, q3⟩ := k5 m (by omega)
  obtain ⟨w1, w2, w3⟩ := e7 m (by omega)
  rw [q1, h6] at w1
  rw [q2, h8] at w2
  rw [q3, h10] at w3
  let ru' : T_ru := ru_base_s (ru_next_s (ru_unit_s (ru_waiting_s ru (nI m)) (nI u)) (nI i)) (nI bs)
  have eb : r_Ru_goBack n ru = some ru' := by
    unfold r_Ru_goBack
    rw [e1, if_neg (by rw [i_le, nI_t (by omega), k0]; omega), if_pos (by rw [i_le, nI_t (by omega)]; show _ ≤ (16 : Int); omega), nI_pred]
    show gr (ru_waitingUnits ru) (nI m) 16 (fun v4 => gr (ru_waitingNexts ru) (nI m) 16 (fun v6 => gr (ru_waitingBases ru) (nI m) 16 (fun v8 => some (ru_base_s (ru_next_s (ru_unit_s (ru_waiting_s ru (nI m)) v4) v6) v8)))) = _
    rw [gr_nI hm (by decide), gr_nI hm (by decide), gr_nI hm (by decide), w1, w2, w3]
  refine ⟨ru', ?_, hfl, rfl, e2, e3, e4, rfl, q1.trans h6, rfl, q2.trans h8, rfl, q3.trans h10, fun j hj => e7 j (by omega)⟩
  rw [r_Ru_run_l52, if_neg (by rw [i_le, nI_t (by omega)]; show ¬ (40002 : Int) ≤ _; omega), if_pos hfl, e5, e6, co_size hc hk ha, Option.bind_some, if_pos (by rw [i_le]; omega), e1, if_neg (by rw [i_le, nI_t (by omega), k0]; omega), eb, Option.bind_some, nI_1]
