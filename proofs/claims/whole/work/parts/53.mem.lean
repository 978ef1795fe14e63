/-! a scan: the stack and the cells, both sides -/
def MS (d : Nat) (me : T_me) (mr : T_mr) : Prop := me_depth me = nI d ∧ mr_depth mr = nI d ∧ me_deepest me = mr_deepest mr ∧ (∀ j, j < d → me_stack me j = mr_stack mr j) ∧ ∀ j, j < 4096 → me_cells me j = mr_cells mr j
/-- all but stack and cells is as it was -/
def Kq (mr mr' : T_mr) : Prop := mr_runs mr' = mr_runs mr ∧ mr_now mr' = mr_now mr ∧ mr_lastSteps mr' = mr_lastSteps mr ∧ mr_scans mr' = mr_scans mr ∧ mr_faults mr' = mr_faults mr ∧ mr_unitOf mr' = mr_unitOf mr ∧ mr_baseOf mr' = mr_baseOf mr ∧ mr_nextOf mr' = mr_nextOf mr
theorem Kq_r (mr : T_mr) : Kq mr mr := ⟨rfl, rfl, rfl, rfl, rfl, rfl, rfl, rfl⟩
theorem Kq_t {a b c : T_mr} (h : Kq a b) (k : Kq b c) : Kq a c := by
  obtain ⟨a1, a2, a3, a4, a5, a6, a7, a8⟩ := h
  obtain ⟨b1, b2, b3, b4, b5, b6, b7, b8⟩ := k
  exact ⟨b1.trans a1, b2.trans a2, b3.trans a3, b4.trans a4, b5.trans a5, b6.trans a6, b7.trans a7, b8.trans a8⟩
theorem pop_ok {n d : Nat} {me : T_me} {mr : T_mr} (h : MS (d + 1) me mr) (hd : d + 1 ≤ 1024) : ∃ v me' mr', r_Me_pop n me = some (v, me') ∧ r_Mo_pop n mr = some (v, mr') ∧ MS d me' mr' ∧ Kq mr mr' ∧ mr_cells mr' = mr_cells mr := by
  obtain ⟨h1, h2, h3, h4, h5⟩ := h
  refine ⟨mr_stack mr d, me_depth_s me (nI d), mr_depth_s mr (nI d), ?_, ?_, ⟨rfl, rfl, h3, fun j hj => h4 j (by omega), h5⟩, ⟨rfl, rfl, rfl, rfl, rfl, rfl, rfl, rfl⟩, rfl⟩
  · unfold r_Me_pop
    rw [h1, if_neg (by rw [i_le, nI_t (by omega), k0]; omega), if_pos (by rw [i_le, nI_t (by omega)]; show _ ≤ (1024 : Int); omega), nI_pred]
    show gr (me_stack me) (nI d) 1024 (fun v4 => some (v4, me_depth_s me (nI d))) = _
    rw [gr_nI (by omega) (by decide), h4 d (by omega)]
  · unfold r_Mo_pop
    rw [h2, nI_pred]
    show gr (mr_stack mr) (nI d) 2048 (fun v4 => some (v4, mr_depth_s mr (nI d))) = _
    rw [gr_nI (by omega) (by decide)]
theorem push_ok {n d : Nat} {me : T_me} {mr : T_mr} (h : MS d me mr) (hd : d < 1024) (v : Int32) : ∃ me' mr', r_Me_push n me v = some me' ∧ r_Mo_push n mr v = some mr' ∧ MS (d + 1) me' mr' ∧ Kq mr mr' ∧ mr_cells mr' = mr_cells mr := by
  obtain ⟨h1, h2, h3, h4, h5⟩ := h
  have st : ∀ j, j < d + 1 → upd (me_stack me) d v j = upd (mr_stack mr) d v j := fun j hj => by
    by_cases e : j = d
    · rw [e, upd_at, upd_at]
    · rw [upd_ne e, upd_ne e]; exact h4 j (by omega)
  have a1 : r_Me_push n me v = some (me_deepest_s (me_depth_s (me_stack_s me (upd (me_stack me) d v)) (nI (d + 1))) (if me_deepest me < nI (d + 1) then nI (d + 1) else me_deepest me)) := by
    unfold r_Me_push
    rw [h1, if_neg (lt0 (by omega)), if_neg (by rw [i_le, nI_t (by omega)]; show ¬ (1024 : Int) ≤ _; omega), ga_nI hd (by decide), nI_clamp (by omega)]
    show some (me_deepest_s (me_depth_s (me_stack_s me (upd (me_stack me) d v)) (me_depth me + 1)) (if me_deepest me < me_depth me + 1 then me_depth me + 1 else me_deepest me)) = _
    rw [h1, nI_1]
  have a2 : r_Mo_push n mr v = some (mr_deepest_s (mr_depth_s (mr_stack_s mr (upd (mr_stack mr) d v)) (nI (d + 1))) (if mr_deepest mr < nI (d + 1) then nI (d + 1) else mr_deepest mr)) := by
    unfold r_Mo_push
    rw [h2, ga_nI (by omega) (by decide), nI_clamp (by omega)]
    show (if mr_depth mr + 1 ≤ mr_deepest mr then some (mr_deepest_s (mr_depth_s (mr_stack_s mr (upd (mr_stack mr) d v)) (mr_depth mr + 1)) (mr_deepest mr)) else some (mr_deepest_s (mr_depth_s (mr_stack_s mr (upd (mr_stack mr) d v)) (mr_depth mr + 1)) (mr_depth mr + 1))) = _
    rw [h2, nI_1]
    by_cases c : nI (d + 1) ≤ mr_deepest mr
    · rw [if_pos c, if_neg]; rw [i_lt]; rw [i_le] at c; omega
    · rw [if_neg c, if_pos]; rw [i_lt]; rw [i_le] at c; omega
  refine ⟨_, _, a1, a2, ⟨rfl, rfl, ?_, st, h5⟩, ⟨rfl, rfl, rfl, rfl, rfl, rfl, rfl, rfl⟩, rfl⟩
  show (if me_deepest me < nI (d + 1) then nI (d + 1) else me_deepest me) = (if mr_deepest mr < nI (d + 1) then nI (d + 1) else mr_deepest mr)
  rw [h3]
theorem wr_ok {n d j : Nat} {me : T_me} {mr : T_mr} {v : Int32} (h : MS d me mr) (hj : j < 4096) : ∃ me', r_Me_change n me (nI j) v = some me' ∧ MS d me' (mr_cells_s mr (upd (mr_cells mr) j v)) := by
  obtain ⟨h1, h2, h3, h4, h5⟩ := h
  refine ⟨_, chg_nI hj, h1, h2, h3, h4, fun i hi => ?_⟩
  show upd (me_cells me) j v i = upd (mr_cells mr) j v i
  unfold upd; rw [h5 i hi]
theorem Kq_c (mr : T_mr) (g : Nat → Int32) : Kq mr (mr_cells_s mr g) := ⟨rfl, rfl, rfl, rfl, rfl, rfl, rfl, rfl⟩
theorem ad_nI {b : Nat} {x : Int32} (h : 0 ≤ x.toInt) : nI b + x = nI (b + x.toInt.toNat) := by
  conv => lhs; rw [i_nat h]
  rw [nI_add]
/-- who is where: unit, instruction, first cell, steps, and those that wait -/
def RS (m u bs i s : Nat) (ru : T_ru) (mr : T_mr) : Prop :=
  ru_waiting ru = nI m ∧ ru_now ru = mr_now mr ∧ ru_steps ru = nI s ∧ mr_lastSteps mr = nI s ∧ ru_unit ru = nI u ∧ mr_unitOf mr m = nI u ∧ ru_next ru = nI i ∧ mr_nextOf mr m = nI i ∧ ru_base ru = nI bs ∧ mr_baseOf mr m = nI bs ∧
  ∀ j, j < m → ru_waitingUnits ru j = mr_unitOf mr j ∧ ru_waitingNexts ru j = mr_nextOf mr j ∧ ru_waitingBases ru j = mr_baseOf mr j
theorem RS_q {m u bs i s : Nat} {ru : T_ru} {mr mr' : T_mr} (h : RS m u bs i s ru mr) (k : Kq mr mr') : RS m u bs i s ru mr' := by
  obtain ⟨k1, k2, k3, k4, k5, k6, k7, k8⟩ := k
  unfold RS
  rw [k2, k3, k6, k7, k8]; exact h
def ru1 (ru : T_ru) (i s : Nat) : T_ru := ru_next_s (ru_steps_s ru (nI (s + 1))) (nI (i + 1))
def mr1 (mr : T_mr) (m i s : Nat) : T_mr := mr_nextOf_s (mr_lastSteps_s mr (nI (s + 1))) (upd (mr_nextOf mr) m (nI (i + 1)))
theorem RS_1 {m u bs i s : Nat} {ru : T_ru} {mr : T_mr} (h : RS m u bs i s ru mr) : RS m u bs (i + 1) (s + 1) (ru1 ru i s) (mr1 mr m i s) := by
  obtain ⟨h1, h2, h3, h4, h5, h6, h7, h8, h9, h10, h11⟩ := h
  refine ⟨h1, h2, rfl, rfl, h5, h6, rfl, ?_, h9, h10, fun j hj => ?_⟩
  · show upd (mr_nextOf mr) m _ m = _; exact upd_at
  · obtain ⟨a, b, c⟩ := h11 j hj
    refine ⟨a, ?_, c⟩
    show _ = upd (mr_nextOf mr) m _ j
    rw [upd_ne (by omega)]; exact b
theorem RS_j {m u bs i s : Nat} {ru : T_ru} {mr : T_mr} (t : Nat) (h : RS m u bs i s ru mr) : RS m u bs t s (ru_next_s ru (nI t)) (mr_nextOf_s mr (upd (mr_nextOf mr) m (nI t))) := by
  obtain ⟨h1, h2, h3, h4, h5, h6, h7, h8, h9, h10, h11⟩ := h
  refine ⟨h1, h2, h3, h4, h5, h6, rfl, ?_, h9, h10, fun j hj => ?_⟩
  · show upd (mr_nextOf mr) m _ m = _; exact upd_at
  · obtain ⟨a, b, c⟩ := h11 j hj
    refine ⟨a, ?_, c⟩
    show _ = upd (mr_nextOf mr) m _ j
    rw [upd_ne (by omega)]; exact b
/-- those below m are as they were -/
def Kp (m : Nat) (mr mr' : T_mr) : Prop := mr_runs mr' = mr_runs mr ∧ mr_now mr' = mr_now mr ∧ mr_scans mr' = mr_scans mr ∧ mr_faults mr' = mr_faults mr ∧ ∀ j, j < m → mr_unitOf mr' j = mr_unitOf mr j ∧ mr_nextOf mr' j = mr_nextOf mr j ∧ mr_baseOf mr' j = mr_baseOf mr j
theorem Kp_r (m : Nat) (mr : T_mr) : Kp m mr mr := ⟨rfl, rfl, rfl, rfl, fun _ _ => ⟨rfl, rfl, rfl⟩⟩
theorem Kp_t {m : Nat} {a b c : T_mr} (h : Kp m a b) (k : Kp m b c) : Kp m a c := by
  obtain ⟨a1, a2, a3, a4, a5⟩ := h
  obtain ⟨b1, b2, b3, b4, b5⟩ := k
  exact ⟨b1.trans a1, b2.trans a2, b3.trans a3, b4.trans a4, fun j hj => ⟨(b5 j hj).1.trans (a5 j hj).1, (b5 j hj).2.1.trans (a5 j hj).2.1, (b5 j hj).2.2.trans (a5 j hj).2.2⟩⟩
theorem Kp_m {m m' : Nat} {a b : T_mr} (hm : m' ≤ m) (h : Kp m a b) : Kp m' a b := ⟨h.1, h.2.1, h.2.2.1, h.2.2.2.1, fun j hj => h.2.2.2.2 j (by omega)⟩
theorem Kp_q {m : Nat} {a b c : T_mr} (h : Kp m a b) (k : Kq b c) : Kp m a c := by
  obtain ⟨a1, a2, a3, a4, a5⟩ := h
  obtain ⟨b1, b2, b3, b4, b5, b6, b7, b8⟩ := k
  exact ⟨b1.trans a1, b2.trans a2, b4.trans a3, b5.trans a4, fun j hj => by rw [b6, b7, b8]; exact a5 j hj⟩
theorem Kp_1 (mr : T_mr) (m i s : Nat) : Kp m mr (mr1 mr m i s) := ⟨rfl, rfl, rfl, rfl, fun j hj => ⟨rfl, by show upd (mr_nextOf mr) m _ j = _; rw [upd_ne (by omega)], rfl⟩⟩
theorem Kp_j {m : Nat} {a b : T_mr} (t : Int32) (h : Kp m a b) : Kp m a (mr_nextOf_s b (upd (mr_nextOf b) m t)) :=
  ⟨h.1, h.2.1, h.2.2.1, h.2.2.2.1, fun j hj => ⟨(h.2.2.2.2 j hj).1, by show upd (mr_nextOf b) m _ j = _; rw [upd_ne (by omega)]; exact (h.2.2.2.2 j hj).2.1, (h.2.2.2.2 j hj).2.2⟩⟩
theorem MS_1 {d m i s : Nat} {me : T_me} {mr : T_mr} (h : MS d me mr) : MS d me (mr1 mr m i s) := h
theorem MS_j {d : Nat} {me : T_me} {mr : T_mr} (g : Nat → Int32) (h : MS d me mr) : MS d me (mr_nextOf_s mr g) := h
/-- the class's step, once its instruction is read -/
theorem step_eq {n : Nat} {ko : T_ko} {mc : T_mc} (hc : CodeOK mc) (hk : KoRel ko mc) {m u bs i s : Nat} {me : T_me} {ru : T_ru} {mr : T_mr} (hu : u < nU mc) (hi : i < sz mc u) (h : RS m u bs i s ru mr) : r_Ru_step n ko me ru =
    if (6 : Int32) < mc_numbers mc (fi mc u + i) then if (9 : Int32) < mc_numbers mc (fi mc u + i) then if mc_numbers mc (fi mc u + i) = 17 then (r_Bl_run n me (mc_as_ mc (fi mc u + i)) (nI bs + mc_bs mc (fi mc u + i)) (mr_now mr)).bind (fun q9 => some (q9, ru1 ru i s))
      else (r_Ru_go n ko me (ru1 ru i s) (mc_numbers mc (fi mc u + i)) (mc_as_ mc (fi mc u + i)) (mc_bs mc (fi mc u + i))).bind (fun q8 => some (q8.1, q8.2))
      else (r_Ru_reckon n me (ru1 ru i s) (mc_numbers mc (fi mc u + i)) (mc_as_ mc (fi mc u + i))).bind (fun q10 => some (q10.1, q10.2))
      else (r_Ru_move n ko me (ru1 ru i s) (mc_numbers mc (fi mc u + i)) (mc_as_ mc (fi mc u + i)) (mc_bs mc (fi mc u + i)) (mc_cs mc (fi mc u + i))).bind (fun q11 => some (q11.1, q11.2)) := by
  obtain ⟨h1, h2, h3, h4, h5, h6, h7, h8, h9, h10, h11⟩ := h
  have e : ru_next_s (ru_steps_s ru (ru_steps ru + 1)) (ru_next (ru_steps_s ru (ru_steps ru + 1)) + 1) = ru1 ru i s := by
    show ru_next_s (ru_steps_s ru (ru_steps ru + 1)) (ru_next ru + 1) = _
    rw [h3, h7, nI_1, nI_1]; rfl
  unfold r_Ru_step
  rw [e, show ru_base (ru1 ru i s) = nI bs from h9, show ru_now (ru1 ru i s) = mr_now mr from h2, h5, h7, co_numberAt hc hk hu hi, co_aAt hc hk hu hi, co_bAt hc hk hu hi, co_cAt hc hk hu hi, Option.bind_some, Option.bind_some, Option.bind_some, Option.bind_some]
