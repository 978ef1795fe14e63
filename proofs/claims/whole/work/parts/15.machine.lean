/-! printed by wip/gen/gen3.py: pure functions and contracts of ScanMachine -/
theorem d_Sm_firstFault_0 : decode b_Sm_firstFault 0 = .ok (.aload_n 0, 1) := by decide +kernel
theorem d_Sm_firstFault_1 : decode b_Sm_firstFault 1 = .ok (.getfield 21, 3) := by decide +kernel
theorem d_Sm_firstFault_4 : decode b_Sm_firstFault 4 = .ok (.iload_n 1, 1) := by decide +kernel
theorem d_Sm_firstFault_5 : decode b_Sm_firstFault 5 = .ok (.aload_n 0, 1) := by decide +kernel
theorem d_Sm_firstFault_6 : decode b_Sm_firstFault 6 = .ok (.getfield 62, 3) := by decide +kernel
theorem d_Sm_firstFault_9 : decode b_Sm_firstFault 9 = .ok (.invokevirtual 142, 3) := by decide +kernel
theorem d_Sm_firstFault_12 : decode b_Sm_firstFault 12 = .ok (.istore_n 2, 1) := by decide +kernel
theorem d_Sm_firstFault_13 : decode b_Sm_firstFault 13 = .ok (.iload_n 2, 1) := by decide +kernel
theorem d_Sm_firstFault_14 : decode b_Sm_firstFault 14 = .ok (.ifCond .ne 12, 3) := by decide +kernel
theorem d_Sm_firstFault_17 : decode b_Sm_firstFault 17 = .ok (.aload_n 0, 1) := by decide +kernel
theorem d_Sm_firstFault_18 : decode b_Sm_firstFault 18 = .ok (.getfield 28, 3) := by decide +kernel
theorem d_Sm_firstFault_21 : decode b_Sm_firstFault 21 = .ok (.iload_n 1, 1) := by decide +kernel
theorem d_Sm_firstFault_22 : decode b_Sm_firstFault 22 = .ok (.invokevirtual 145, 3) := by decide +kernel
theorem d_Sm_firstFault_25 : decode b_Sm_firstFault 25 = .ok (.istore_n 2, 1) := by decide +kernel
theorem d_Sm_firstFault_26 : decode b_Sm_firstFault 26 = .ok (.iload_n 2, 1) := by decide +kernel
theorem d_Sm_firstFault_27 : decode b_Sm_firstFault 27 = .ok (.ifCond .ne 12, 3) := by decide +kernel
theorem d_Sm_firstFault_30 : decode b_Sm_firstFault 30 = .ok (.aload_n 0, 1) := by decide +kernel
theorem d_Sm_firstFault_31 : decode b_Sm_firstFault 31 = .ok (.getfield 35, 3) := by decide +kernel
theorem d_Sm_firstFault_34 : decode b_Sm_firstFault 34 = .ok (.iload_n 1, 1) := by decide +kernel
theorem d_Sm_firstFault_35 : decode b_Sm_firstFault 35 = .ok (.invokevirtual 147, 3) := by decide +kernel
theorem d_Sm_firstFault_38 : decode b_Sm_firstFault 38 = .ok (.istore_n 2, 1) := by decide +kernel
theorem d_Sm_firstFault_39 : decode b_Sm_firstFault 39 = .ok (.iload_n 2, 1) := by decide +kernel
theorem d_Sm_firstFault_40 : decode b_Sm_firstFault 40 = .ok (.ifCond .ne 12, 3) := by decide +kernel
theorem d_Sm_firstFault_43 : decode b_Sm_firstFault 43 = .ok (.aload_n 0, 1) := by decide +kernel
theorem d_Sm_firstFault_44 : decode b_Sm_firstFault 44 = .ok (.getfield 42, 3) := by decide +kernel
theorem d_Sm_firstFault_47 : decode b_Sm_firstFault 47 = .ok (.iload_n 1, 1) := by decide +kernel
theorem d_Sm_firstFault_48 : decode b_Sm_firstFault 48 = .ok (.invokevirtual 148, 3) := by decide +kernel
theorem d_Sm_firstFault_51 : decode b_Sm_firstFault 51 = .ok (.istore_n 2, 1) := by decide +kernel
theorem d_Sm_firstFault_52 : decode b_Sm_firstFault 52 = .ok (.iload_n 2, 1) := by decide +kernel
theorem d_Sm_firstFault_53 : decode b_Sm_firstFault 53 = .ok (.ireturn, 1) := by decide +kernel
def r_Sm_firstFault_j39 (n : Nat) (ma : T_ma) (ko : T_ko)  (sh : T_sh) (lo : T_lo) (de : T_de) (wa : T_wa) (x1 : Int32) (x2 : Int32) : Option (Int32 × T_sh × T_lo × T_de × T_wa) := if x2 = 0 then (r_Wa_faultOf n ko wa x1).bind (fun q2 => some (q2.1, sh, lo, de, q2.2)) else some (x2, sh, lo, de, wa)
def r_Sm_firstFault_j26 (n : Nat) (ma : T_ma) (ko : T_ko)  (sh : T_sh) (lo : T_lo) (de : T_de) (wa : T_wa) (x1 : Int32) (x2 : Int32) : Option (Int32 × T_sh × T_lo × T_de × T_wa) := if x2 = 0 then (r_De_faultOf n ko de x1).bind (fun q4 => r_Sm_firstFault_j39 n ma ko sh lo q4.2 wa x1 q4.1) else r_Sm_firstFault_j39 n ma ko sh lo de wa x1 x2
def r_Sm_firstFault (n : Nat) (ma : T_ma) (ko : T_ko) (sh : T_sh) (lo : T_lo) (de : T_de) (wa : T_wa) (a0 : Int32) : Option (Int32 × T_sh × T_lo × T_de × T_wa) := (r_Sh_faultOf n ko sh a0 (ma_total ma)).bind (fun q5 => if q5.1 = 0 then (r_Lo_faultOf n ko lo a0).bind (fun q7 => r_Sm_firstFault_j26 n ma ko q5.2 q7.2 de wa a0 q7.1) else r_Sm_firstFault_j26 n ma ko q5.2 lo de wa a0 q5.1)
def rm_Sm_firstFault : Jvm.Room := { frames := 6, cells := 0, slots := 0, locals := 145 }
set_option maxHeartbeats 4000000 in
set_option maxRecDepth 100000 in
theorem c_Sm_firstFault {l : Launch} {D : va_G} {cI cL : ClassId} {ad : Nat → Nat} {ma : T_ma} {ko : T_ko} {sh : T_sh} {lo : T_lo} {de : T_de} {wa : T_wa} {me : T_me} {ru : T_ru} {ws0 : va_W} {sz n : Nat} {a0 : Int32} {r9 : Int32} {sh9 : T_sh} {lo9 : T_lo} {de9 : T_de} {wa9 : T_wa} (hw : ws0 = (wX cI cL ad ma ko sh lo de wa me ru)) (h : r_Sm_firstFault n ma ko sh lo de wa a0 = some (r9, sh9, lo9, de9, wa9)) : Met l y_Sm_firstFault (Cond.code y_Sm_firstFault b_Sm_firstFault 3 (some .int) :: TB) rm_Sm_firstFault (PreW D clX (tyX cI cL) ws0 [.ref (ad 0), .int a0] sz) (PstI D clX (tyX cI cL) ws0 (wX cI cL ad ma ko (sh9) (lo9) (de9) (wa9) me ru) sz r9) 0 0 (va_A ws0 sz) := by
  refine k_met (by decide) (Nat.le_of_ble_eq_true rfl) ?_
  intro p e s m below meth c ls hx hb hr hml hts hown hlk hnm hsz hP hK hD hA hz hl
  have hP : va_P D clX (wX cI cL ad ma ko sh lo de wa me ru) s.heap := by rw [← hw]; exact hP
  have hD : va_D (va_A ws0 sz) (wX cI cL ad ma ko sh lo de wa me ru) := by rw [← hw]; exact hD
  have hS : va_S (va_A ws0 sz) s.heap s.heap [] := va_S.rf
  have hl : lv_has ls 3 [(0, .ref (ad 0)), (1, .int a0)] := hl
  generalize hQ : MQ below (PstI D clX (tyX cI cL) ws0 (wX cI cL ad ma ko (sh9) (lo9) (de9) (wa9) me ru) sz r9) [.ref (ad 0), .int a0].toArray s 0 0 (va_A ws0 sz) = Q
  have J39 : ∀ (sh : T_sh) (lo : T_lo) (de : T_de) (wa : T_wa) (x1 : Int32) (x2 : Int32) (H : Heap) (locs : List Loc) (ls : Array Slot), r_Sm_firstFault_j39 n ma ko sh lo de wa x1 x2 = some (r9, sh9, lo9, de9, wa9) → va_P D clX (wX cI cL ad ma ko sh lo de wa me ru) H → va_D (va_A ws0 sz) (wX cI cL ad ma ko sh lo de wa me ru) → va_S (va_A ws0 sz) s.heap H locs → lv_has ls 3 [(0, .ref (ad 0)), (1, .int x1), (2, .int x2)] → W p l e rm_Sm_firstFault s m [.ref (ad 0), .int a0].toArray below meth c H locs 0 0 Q (F0 m 39 ls []) := by
    intro sh lo de wa x1 x2 H locs ls h hP hD hS hl
    unfold r_Sm_firstFault_j39 at h
    refine lv_iload_n hx hb d_Sm_firstFault_39 rfl (lv_at hl 2 rfl) ?_
    refine lv_if_ne (tgt := 52) hx hb d_Sm_firstFault_40 (by decide) (fun c1 => ?_) (fun c1 => ?_)
    · rw [if_neg c1] at h
      refine lv_iload_n hx hb d_Sm_firstFault_52 rfl (lv_at hl 2 rfl) ?_
      cases h
      subst hQ
      exact k_iret hx hb hr hlk hP hK hD hS d_Sm_firstFault_53
    · rw [if_pos c1] at h
      refine lv_aload_n hx hb d_Sm_firstFault_43 rfl (lv_at hl 0 rfl) ?_
      refine rd_Sm_ways hx hb hts hown hK hP lk_227 d_Sm_firstFault_44 ?_
      refine lv_iload_n hx hb d_Sm_firstFault_47 rfl (lv_at hl 1 rfl) ?_
      obtain ⟨q2, hq2, h⟩ := Option.bind_eq_some_iff.mp h
      refine k_I (k_runVN ⟨hx, hb, hml, hown, hts⟩ (c_Wa_faultOf rfl hq2) ok_Wa_faultOf is_Wa_faultOf lk_481 rfl rfl ⟨by decide, by decide⟩ hP hK hD hS hA hz (ci := 5) (q0 := 15) rfl rfl ob_Wa rfl hl.1 rfl (Nat.le_of_ble_eq_true rfl) d_Sm_firstFault_48 ⟨Nat.zero_le _, Nat.zero_le _⟩) hD hS hA (fun H locs hP hD hS => ?_)
      refine lv_istore_n (lv' := [(2, .int q2.1), (0, .ref (ad 0)), (1, .int x1)]) hx hb d_Sm_firstFault_51 rfl hl (by decide) rfl (fun ls hl => ?_)
      refine lv_iload_n hx hb d_Sm_firstFault_52 rfl (lv_at hl 0 rfl) ?_
      cases h
      subst hQ
      exact k_iret hx hb hr hlk hP hK hD hS d_Sm_firstFault_53
  have J26 : ∀ (sh : T_sh) (lo : T_lo) (de : T_de) (wa : T_wa) (x1 : Int32) (x2 : Int32) (H : Heap) (locs : List Loc) (ls : Array Slot), r_Sm_firstFault_j26 n ma ko sh lo de wa x1 x2 = some (r9, sh9, lo9, de9, wa9) → va_P D clX (wX cI cL ad ma ko sh lo de wa me ru) H → va_D (va_A ws0 sz) (wX cI cL ad ma ko sh lo de wa me ru) → va_S (va_A ws0 sz) s.heap H locs → lv_has ls 3 [(0, .ref (ad 0)), (1, .int x1), (2, .int x2)] → W p l e rm_Sm_firstFault s m [.ref (ad 0), .int a0].toArray below meth c H locs 0 0 Q (F0 m 26 ls []) := by
    intro sh lo de wa x1 x2 H locs ls h hP hD hS hl
    unfold r_Sm_firstFault_j26 at h
    refine lv_iload_n hx hb d_Sm_firstFault_26 rfl (lv_at hl 2 rfl) ?_
    refine lv_if_ne (tgt := 39) hx hb d_Sm_firstFault_27 (by decide) (fun c3 => ?_) (fun c3 => ?_)
    · rw [if_neg c3] at h
      exact J39 _ _ _ _ _ _ _ _ _ h hP hD hS (lv_sub hl [0, 1, 2] rfl)
    · rw [if_pos c3] at h
      refine lv_aload_n hx hb d_Sm_firstFault_30 rfl (lv_at hl 0 rfl) ?_
      refine rd_Sm_depths hx hb hts hown hK hP lk_226 d_Sm_firstFault_31 ?_
      refine lv_iload_n hx hb d_Sm_firstFault_34 rfl (lv_at hl 1 rfl) ?_
      obtain ⟨q4, hq4, h⟩ := Option.bind_eq_some_iff.mp h
      refine k_I (k_runVN ⟨hx, hb, hml, hown, hts⟩ (c_De_faultOf rfl hq4) ok_De_faultOf is_De_faultOf lk_456 rfl rfl ⟨by decide, by decide⟩ hP hK hD hS hA hz (ci := 4) (q0 := 13) rfl rfl ob_De rfl hl.1 rfl (Nat.le_of_ble_eq_true rfl) d_Sm_firstFault_35 ⟨Nat.zero_le _, Nat.zero_le _⟩) hD hS hA (fun H locs hP hD hS => ?_)
      refine lv_istore_n (lv' := [(2, .int q4.1), (0, .ref (ad 0)), (1, .int x1)]) hx hb d_Sm_firstFault_38 rfl hl (by decide) rfl (fun ls hl => ?_)
      exact J39 _ _ _ _ _ _ _ _ _ h hP hD hS (lv_sub hl [1, 2, 0] rfl)
  unfold r_Sm_firstFault at h
  refine lv_aload_n hx hb d_Sm_firstFault_0 rfl (lv_at hl 0 rfl) ?_
  refine rd_Sm_shape hx hb hts hown hK hP lk_224 d_Sm_firstFault_1 ?_
  refine lv_iload_n hx hb d_Sm_firstFault_4 rfl (lv_at hl 1 rfl) ?_
  refine lv_aload_n hx hb d_Sm_firstFault_5 rfl (lv_at hl 0 rfl) ?_
  refine rd_Sm_total hx hb hts hown hK hP lk_230 (v := (ma_total ma)) rfl d_Sm_firstFault_6 ?_
  obtain ⟨q5, hq5, h⟩ := Option.bind_eq_some_iff.mp h
  refine k_I (k_runVN ⟨hx, hb, hml, hown, hts⟩ (c_Sh_faultOf rfl hq5) ok_Sh_faultOf is_Sh_faultOf lk_324 rfl rfl ⟨by decide, by decide⟩ hP hK hD hS hA hz (ci := 2) (q0 := 10) rfl rfl ob_Sh rfl hl.1 rfl (Nat.le_of_ble_eq_true rfl) d_Sm_firstFault_9 ⟨Nat.zero_le _, Nat.zero_le _⟩) hD hS hA (fun H locs hP hD hS => ?_)
  refine lv_istore_n (lv' := [(2, .int q5.1), (0, .ref (ad 0)), (1, .int a0)]) hx hb d_Sm_firstFault_12 rfl hl (by decide) rfl (fun ls hl => ?_)
  refine lv_iload_n hx hb d_Sm_firstFault_13 rfl (lv_at hl 0 rfl) ?_
  refine lv_if_ne (tgt := 26) hx hb d_Sm_firstFault_14 (by decide) (fun c6 => ?_) (fun c6 => ?_)
  · rw [if_neg c6] at h
    exact J26 _ _ _ _ _ _ _ _ _ h hP hD hS (lv_sub hl [1, 2, 0] rfl)
  · rw [if_pos c6] at h
    refine lv_aload_n hx hb d_Sm_firstFault_17 rfl (lv_at hl 1 rfl) ?_
    refine rd_Sm_loops hx hb hts hown hK hP lk_225 d_Sm_firstFault_18 ?_
    refine lv_iload_n hx hb d_Sm_firstFault_21 rfl (lv_at hl 2 rfl) ?_
    obtain ⟨q7, hq7, h⟩ := Option.bind_eq_some_iff.mp h
    refine k_I (k_runVN ⟨hx, hb, hml, hown, hts⟩ (c_Lo_faultOf rfl hq7) ok_Lo_faultOf is_Lo_faultOf lk_420 rfl rfl ⟨by decide, by decide⟩ hP hK hD hS hA hz (ci := 3) (q0 := 11) rfl rfl ob_Lo rfl hl.1 rfl (Nat.le_of_ble_eq_true rfl) d_Sm_firstFault_22 ⟨Nat.zero_le _, Nat.zero_le _⟩) hD hS hA (fun H locs hP hD hS => ?_)
    refine lv_istore_n (lv' := [(2, .int q7.1), (0, .ref (ad 0)), (1, .int a0)]) hx hb d_Sm_firstFault_25 rfl hl (by decide) rfl (fun ls hl => ?_)
    exact J26 _ _ _ _ _ _ _ _ _ h hP hD hS (lv_sub hl [1, 2, 0] rfl)
theorem d_Sm_halt_0 : decode b_Sm_halt 0 = .ok (.aload_n 0, 1) := by decide +kernel
theorem d_Sm_halt_1 : decode b_Sm_halt 1 = .ok (.getfield 104, 3) := by decide +kernel
theorem d_Sm_halt_4 : decode b_Sm_halt 4 = .ok (.ifCond .ne 4, 3) := by decide +kernel
theorem d_Sm_halt_7 : decode b_Sm_halt 7 = .ok (.return_, 1) := by decide +kernel
theorem d_Sm_halt_8 : decode b_Sm_halt 8 = .ok (.aload_n 0, 1) := by decide +kernel
theorem d_Sm_halt_9 : decode b_Sm_halt 9 = .ok (.iconst 0, 1) := by decide +kernel
theorem d_Sm_halt_10 : decode b_Sm_halt 10 = .ok (.putfield 104, 3) := by decide +kernel
theorem d_Sm_halt_13 : decode b_Sm_halt 13 = .ok (.aload_n 0, 1) := by decide +kernel
theorem d_Sm_halt_14 : decode b_Sm_halt 14 = .ok (.iconst 0, 1) := by decide +kernel
theorem d_Sm_halt_15 : decode b_Sm_halt 15 = .ok (.putfield 101, 3) := by decide +kernel
theorem d_Sm_halt_18 : decode b_Sm_halt 18 = .ok (.aload_n 0, 1) := by decide +kernel
theorem d_Sm_halt_19 : decode b_Sm_halt 19 = .ok (.iconst 0, 1) := by decide +kernel
theorem d_Sm_halt_20 : decode b_Sm_halt 20 = .ok (.putfield 110, 3) := by decide +kernel
theorem d_Sm_halt_23 : decode b_Sm_halt 23 = .ok (.aload_n 0, 1) := by decide +kernel
theorem d_Sm_halt_24 : decode b_Sm_halt 24 = .ok (.iconst 0, 1) := by decide +kernel
theorem d_Sm_halt_25 : decode b_Sm_halt 25 = .ok (.putfield 113, 3) := by decide +kernel
theorem d_Sm_halt_28 : decode b_Sm_halt 28 = .ok (.aload_n 0, 1) := by decide +kernel
theorem d_Sm_halt_29 : decode b_Sm_halt 29 = .ok (.iconst 0, 1) := by decide +kernel
theorem d_Sm_halt_30 : decode b_Sm_halt 30 = .ok (.putfield 119, 3) := by decide +kernel
theorem d_Sm_halt_33 : decode b_Sm_halt 33 = .ok (.aload_n 0, 1) := by decide +kernel
theorem d_Sm_halt_34 : decode b_Sm_halt 34 = .ok (.getfield 58, 3) := by decide +kernel
theorem d_Sm_halt_37 : decode b_Sm_halt 37 = .ok (.iconst 0, 1) := by decide +kernel
theorem d_Sm_halt_38 : decode b_Sm_halt 38 = .ok (.putfield 133, 3) := by decide +kernel
theorem d_Sm_halt_41 : decode b_Sm_halt 41 = .ok (.aload_n 0, 1) := by decide +kernel
theorem d_Sm_halt_42 : decode b_Sm_halt 42 = .ok (.getfield 49, 3) := by decide +kernel
theorem d_Sm_halt_45 : decode b_Sm_halt 45 = .ok (.invokevirtual 139, 3) := by decide +kernel
theorem d_Sm_halt_48 : decode b_Sm_halt 48 = .ok (.return_, 1) := by decide +kernel
def r_Sm_halt (n : Nat) (ma : T_ma) (me : T_me) (ru : T_ru)  : Option (T_ma × T_me × T_ru) := if (ma_ready ma) = 0 then some (ma, me, ru) else (r_Me_clear n me).bind (fun q2 => some ((ma_faults_s (ma_scans_s (ma_now_s (ma_allowed_s (ma_ready_s ma (0 : Int32)) (0 : Int32)) (0 : Int32)) (0 : Int32)) (0 : Int32)), q2, (ru_steps_s ru (0 : Int32))))
def rm_Sm_halt : Jvm.Room := { frames := 2, cells := 0, slots := 0, locals := 43 }
set_option maxHeartbeats 4000000 in
set_option maxRecDepth 100000 in
theorem c_Sm_halt {l : Launch} {D : va_G} {cI cL : ClassId} {ad : Nat → Nat} {ma : T_ma} {ko : T_ko} {sh : T_sh} {lo : T_lo} {de : T_de} {wa : T_wa} {me : T_me} {ru : T_ru} {ws0 : va_W} {sz n : Nat}  {ma9 : T_ma} {me9 : T_me} {ru9 : T_ru} (hw : ws0 = (wX cI cL ad ma ko sh lo de wa me ru)) (h : r_Sm_halt n ma me ru  = some (ma9, me9, ru9)) : Met l y_Sm_halt (Cond.code y_Sm_halt b_Sm_halt 1 none :: TB) rm_Sm_halt (PreW D clX (tyX cI cL) ws0 [.ref (ad 0)] sz) (PstV D clX (tyX cI cL) ws0 (wX cI cL ad (ma9) ko sh lo de wa (me9) (ru9)) sz) 0 0 (va_A ws0 sz) := by
  refine k_met (by decide) (Nat.le_of_ble_eq_true rfl) ?_
  intro p e s m below meth c ls hx hb hr hml hts hown hlk hnm hsz hP hK hD hA hz hl
  have hP : va_P D clX (wX cI cL ad ma ko sh lo de wa me ru) s.heap := by rw [← hw]; exact hP
  have hD : va_D (va_A ws0 sz) (wX cI cL ad ma ko sh lo de wa me ru) := by rw [← hw]; exact hD
  have hS : va_S (va_A ws0 sz) s.heap s.heap [] := va_S.rf
  have hl : lv_has ls 1 [(0, .ref (ad 0))] := hl
  generalize hQ : MQ below (PstV D clX (tyX cI cL) ws0 (wX cI cL ad (ma9) ko sh lo de wa (me9) (ru9)) sz) [.ref (ad 0)].toArray s 0 0 (va_A ws0 sz) = Q
  unfold r_Sm_halt at h
  refine lv_aload_n hx hb d_Sm_halt_0 rfl (lv_at hl 0 rfl) ?_
  refine rd_Sm_ready hx hb hts hown hK hP lk_231 (v := (ma_ready ma)) rfl d_Sm_halt_1 ?_
  refine lv_if_ne (tgt := 8) hx hb d_Sm_halt_4 (by decide) (fun c1 => ?_) (fun c1 => ?_)
  · rw [if_neg c1] at h
    refine lv_aload_n hx hb d_Sm_halt_8 rfl (lv_at hl 0 rfl) ?_
    refine lv_iconst (v := 0) hx hb d_Sm_halt_9 (by decide) ?_
    refine wr_Sm_ready hx hb hts hown hK hP hD hS lk_231 (Or.inl rfl) d_Sm_halt_10 (fun H locs hP hD hS => ?_)
    refine lv_aload_n hx hb d_Sm_halt_13 rfl (lv_at hl 0 rfl) ?_
    refine lv_iconst (v := 0) hx hb d_Sm_halt_14 (by decide) ?_
    refine wr_Sm_allowed hx hb hts hown hK hP hD hS lk_232 d_Sm_halt_15 (fun H locs hP hD hS => ?_)
    refine lv_aload_n hx hb d_Sm_halt_18 rfl (lv_at hl 0 rfl) ?_
    refine lv_iconst (v := 0) hx hb d_Sm_halt_19 (by decide) ?_
    refine wr_Sm_now hx hb hts hown hK hP hD hS lk_233 d_Sm_halt_20 (fun H locs hP hD hS => ?_)
    refine lv_aload_n hx hb d_Sm_halt_23 rfl (lv_at hl 0 rfl) ?_
    refine lv_iconst (v := 0) hx hb d_Sm_halt_24 (by decide) ?_
    refine wr_Sm_scans hx hb hts hown hK hP hD hS lk_234 d_Sm_halt_25 (fun H locs hP hD hS => ?_)
    refine lv_aload_n hx hb d_Sm_halt_28 rfl (lv_at hl 0 rfl) ?_
    refine lv_iconst (v := 0) hx hb d_Sm_halt_29 (by decide) ?_
    refine wr_Sm_faults hx hb hts hown hK hP hD hS lk_235 d_Sm_halt_30 (fun H locs hP hD hS => ?_)
    refine lv_aload_n hx hb d_Sm_halt_33 rfl (lv_at hl 0 rfl) ?_
    refine rd_Sm_runner hx hb hts hown hK hP lk_229 d_Sm_halt_34 ?_
    refine lv_iconst (v := 0) hx hb d_Sm_halt_37 (by decide) ?_
    refine wrN_Ru_steps hx hb hts hown hK hP hD hS (hz.1) lk_193 d_Sm_halt_38 (fun H locs hP hD hS => ?_)
    refine lv_aload_n hx hb d_Sm_halt_41 rfl (lv_at hl 0 rfl) ?_
    refine rd_Sm_memory hx hb hts hown hK hP lk_228 d_Sm_halt_42 ?_
    obtain ⟨q2, hq2, h⟩ := Option.bind_eq_some_iff.mp h
    refine k_V (k_runVN ⟨hx, hb, hml, hown, hts⟩ (c_Me_clear rfl hq2) ok_Me_clear is_Me_clear lk_271 rfl rfl ⟨by decide, by decide⟩ hP hK hD hS hA hz (ci := 6) (q0 := 19) rfl rfl ob_Me rfl hl.1 rfl (Nat.le_of_ble_eq_true rfl) d_Sm_halt_45 ⟨Nat.zero_le _, Nat.zero_le _⟩) hD hS hA (fun H locs hP hD hS => ?_)
    cases h
    subst hQ
    exact k_vret hx hb hr hlk hP hK hD hS d_Sm_halt_48
  · rw [if_pos c1] at h
    cases h
    subst hQ
    exact k_vret hx hb hr hlk hP hK hD hS d_Sm_halt_7
theorem d_Sm_mayTouch_0 : decode b_Sm_mayTouch 0 = .ok (.aload_n 0, 1) := by decide +kernel
theorem d_Sm_mayTouch_1 : decode b_Sm_mayTouch 1 = .ok (.getfield 104, 3) := by decide +kernel
theorem d_Sm_mayTouch_4 : decode b_Sm_mayTouch 4 = .ok (.ifCond .eq 19, 3) := by decide +kernel
theorem d_Sm_mayTouch_7 : decode b_Sm_mayTouch 7 = .ok (.iload_n 1, 1) := by decide +kernel
theorem d_Sm_mayTouch_8 : decode b_Sm_mayTouch 8 = .ok (.ifCond .lt 15, 3) := by decide +kernel
theorem d_Sm_mayTouch_11 : decode b_Sm_mayTouch 11 = .ok (.iload_n 1, 1) := by decide +kernel
theorem d_Sm_mayTouch_12 : decode b_Sm_mayTouch 12 = .ok (.aload_n 0, 1) := by decide +kernel
theorem d_Sm_mayTouch_13 : decode b_Sm_mayTouch 13 = .ok (.getfield 62, 3) := by decide +kernel
theorem d_Sm_mayTouch_16 : decode b_Sm_mayTouch 16 = .ok (.if_icmp .ge 7, 3) := by decide +kernel
theorem d_Sm_mayTouch_19 : decode b_Sm_mayTouch 19 = .ok (.iconst 1, 1) := by decide +kernel
theorem d_Sm_mayTouch_20 : decode b_Sm_mayTouch 20 = .ok (.goto 4, 3) := by decide +kernel
theorem d_Sm_mayTouch_23 : decode b_Sm_mayTouch 23 = .ok (.iconst 0, 1) := by decide +kernel
theorem d_Sm_mayTouch_24 : decode b_Sm_mayTouch 24 = .ok (.ireturn, 1) := by decide +kernel
def r_Sm_mayTouch (n : Nat) (ma : T_ma) (a0 : Int32) : Option (Int32) := if (ma_ready ma) = 0 then some ((0 : Int32)) else if a0 < 0 then some ((0 : Int32)) else if (ma_total ma) ≤ a0 then some ((0 : Int32)) else some ((1 : Int32))
def rm_Sm_mayTouch : Jvm.Room := { frames := 0, cells := 0, slots := 0, locals := 0 }
set_option maxHeartbeats 4000000 in
set_option maxRecDepth 100000 in
theorem c_Sm_mayTouch {l : Launch} {D : va_G} {cI cL : ClassId} {ad : Nat → Nat} {ma : T_ma} {ko : T_ko} {sh : T_sh} {lo : T_lo} {de : T_de} {wa : T_wa} {me : T_me} {ru : T_ru} {ws0 : va_W} {sz n : Nat} {a0 : Int32} {r9 : Int32} (hw : ws0 = (wX cI cL ad ma ko sh lo de wa me ru)) (h : r_Sm_mayTouch n ma a0 = some r9) : Met l y_Sm_mayTouch (Cond.code y_Sm_mayTouch b_Sm_mayTouch 2 (some .boolean) :: TB) rm_Sm_mayTouch (PreW D clX (tyX cI cL) ws0 [.ref (ad 0), .int a0] sz) (PstI D clX (tyX cI cL) ws0 (wX cI cL ad ma ko sh lo de wa me ru) sz r9) 0 0 (va_A ws0 sz) := by
  refine k_met (by decide) (Nat.le_of_ble_eq_true rfl) ?_
  intro p e s m below meth c ls hx hb hr hml hts hown hlk hnm hsz hP hK hD hA hz hl
  have hP : va_P D clX (wX cI cL ad ma ko sh lo de wa me ru) s.heap := by rw [← hw]; exact hP
  have hD : va_D (va_A ws0 sz) (wX cI cL ad ma ko sh lo de wa me ru) := by rw [← hw]; exact hD
  have hS : va_S (va_A ws0 sz) s.heap s.heap [] := va_S.rf
  have hl : lv_has ls 2 [(0, .ref (ad 0)), (1, .int a0)] := hl
  generalize hQ : MQ below (PstI D clX (tyX cI cL) ws0 (wX cI cL ad ma ko sh lo de wa me ru) sz r9) [.ref (ad 0), .int a0].toArray s 0 0 (va_A ws0 sz) = Q
  unfold r_Sm_mayTouch at h
  refine lv_aload_n hx hb d_Sm_mayTouch_0 rfl (lv_at hl 0 rfl) ?_
  refine rd_Sm_ready hx hb hts hown hK hP lk_231 (v := (ma_ready ma)) rfl d_Sm_mayTouch_1 ?_
  refine lv_if_eq (tgt := 23) hx hb d_Sm_mayTouch_4 (by decide) (fun c1 => ?_) (fun c1 => ?_)
  · rw [if_pos c1] at h
    refine lv_iconst (v := 0) hx hb d_Sm_mayTouch_23 (by decide) ?_
    cases h
    subst hQ
    exact k_zret hx hb hr hlk (Or.inl rfl) hP hK hD hS d_Sm_mayTouch_24
  · rw [if_neg c1] at h
    refine lv_iload_n hx hb d_Sm_mayTouch_7 rfl (lv_at hl 1 rfl) ?_
    refine lv_if_lt (tgt := 23) hx hb d_Sm_mayTouch_8 (by decide) (fun c2 => ?_) (fun c2 => ?_)
    · rw [if_pos c2] at h
      refine lv_iconst (v := 0) hx hb d_Sm_mayTouch_23 (by decide) ?_
      cases h
      subst hQ
      exact k_zret hx hb hr hlk (Or.inl rfl) hP hK hD hS d_Sm_mayTouch_24
    · rw [if_neg c2] at h
      refine lv_iload_n hx hb d_Sm_mayTouch_11 rfl (lv_at hl 1 rfl) ?_
      refine lv_aload_n hx hb d_Sm_mayTouch_12 rfl (lv_at hl 0 rfl) ?_
      refine rd_Sm_total hx hb hts hown hK hP lk_230 (v := (ma_total ma)) rfl d_Sm_mayTouch_13 ?_
      refine lv_icmp_ge (tgt := 23) hx hb d_Sm_mayTouch_16 (by decide) (fun c3 => ?_) (fun c3 => ?_)
      · rw [if_pos c3] at h
        refine lv_iconst (v := 0) hx hb d_Sm_mayTouch_23 (by decide) ?_
        cases h
        subst hQ
        exact k_zret hx hb hr hlk (Or.inl rfl) hP hK hD hS d_Sm_mayTouch_24
      · rw [if_neg c3] at h
        refine lv_iconst (v := 1) hx hb d_Sm_mayTouch_19 (by decide) ?_
        refine lv_goto (tgt := 24) hx hb d_Sm_mayTouch_20 (by decide) ?_
        cases h
        subst hQ
        exact k_zret hx hb hr hlk (Or.inr rfl) hP hK hD hS d_Sm_mayTouch_24
theorem d_Sm_count_0 : decode b_Sm_count 0 = .ok (.iload_n 1, 1) := by decide +kernel
theorem d_Sm_count_1 : decode b_Sm_count 1 = .ok (.tableswitch 75 0 5 #[39, 47, 52, 57, 62, 67], 39) := by decide +kernel
theorem d_Sm_count_40 : decode b_Sm_count 40 = .ok (.aload_n 0, 1) := by decide +kernel
theorem d_Sm_count_41 : decode b_Sm_count 41 = .ok (.getfield 58, 3) := by decide +kernel
theorem d_Sm_count_44 : decode b_Sm_count 44 = .ok (.getfield 133, 3) := by decide +kernel
theorem d_Sm_count_47 : decode b_Sm_count 47 = .ok (.ireturn, 1) := by decide +kernel
theorem d_Sm_count_48 : decode b_Sm_count 48 = .ok (.aload_n 0, 1) := by decide +kernel
theorem d_Sm_count_49 : decode b_Sm_count 49 = .ok (.getfield 113, 3) := by decide +kernel
theorem d_Sm_count_52 : decode b_Sm_count 52 = .ok (.ireturn, 1) := by decide +kernel
theorem d_Sm_count_53 : decode b_Sm_count 53 = .ok (.aload_n 0, 1) := by decide +kernel
theorem d_Sm_count_54 : decode b_Sm_count 54 = .ok (.getfield 119, 3) := by decide +kernel
theorem d_Sm_count_57 : decode b_Sm_count 57 = .ok (.ireturn, 1) := by decide +kernel
theorem d_Sm_count_58 : decode b_Sm_count 58 = .ok (.aload_n 0, 1) := by decide +kernel
theorem d_Sm_count_59 : decode b_Sm_count 59 = .ok (.getfield 101, 3) := by decide +kernel
theorem d_Sm_count_62 : decode b_Sm_count 62 = .ok (.ireturn, 1) := by decide +kernel
theorem d_Sm_count_63 : decode b_Sm_count 63 = .ok (.aload_n 0, 1) := by decide +kernel
theorem d_Sm_count_64 : decode b_Sm_count 64 = .ok (.getfield 110, 3) := by decide +kernel
theorem d_Sm_count_67 : decode b_Sm_count 67 = .ok (.ireturn, 1) := by decide +kernel
theorem d_Sm_count_68 : decode b_Sm_count 68 = .ok (.aload_n 0, 1) := by decide +kernel
theorem d_Sm_count_69 : decode b_Sm_count 69 = .ok (.getfield 49, 3) := by decide +kernel
theorem d_Sm_count_72 : decode b_Sm_count 72 = .ok (.getfield 136, 3) := by decide +kernel
theorem d_Sm_count_75 : decode b_Sm_count 75 = .ok (.ireturn, 1) := by decide +kernel
theorem d_Sm_count_76 : decode b_Sm_count 76 = .ok (.iconst (-1), 1) := by decide +kernel
theorem d_Sm_count_77 : decode b_Sm_count 77 = .ok (.ireturn, 1) := by decide +kernel
def r_Sm_count (n : Nat) (ma : T_ma) (me : T_me) (ru : T_ru) (a0 : Int32) : Option (Int32) := if a0 = (0 : Int32) then some ((ru_steps ru)) else if a0 = (1 : Int32) then some ((ma_scans ma)) else if a0 = (2 : Int32) then some ((ma_faults ma)) else if a0 = (3 : Int32) then some ((ma_allowed ma)) else if a0 = (4 : Int32) then some ((ma_now ma)) else if a0 = (5 : Int32) then some ((me_deepest me)) else some ((-1 : Int32))
def rm_Sm_count : Jvm.Room := { frames := 0, cells := 0, slots := 0, locals := 0 }
set_option maxHeartbeats 4000000 in
set_option maxRecDepth 100000 in
theorem c_Sm_count {l : Launch} {D : va_G} {cI cL : ClassId} {ad : Nat → Nat} {ma : T_ma} {ko : T_ko} {sh : T_sh} {lo : T_lo} {de : T_de} {wa : T_wa} {me : T_me} {ru : T_ru} {ws0 : va_W} {sz n : Nat} {a0 : Int32} {r9 : Int32} (hw : ws0 = (wX cI cL ad ma ko sh lo de wa me ru)) (h : r_Sm_count n ma me ru a0 = some r9) : Met l y_Sm_count (Cond.code y_Sm_count b_Sm_count 2 (some .int) :: TB) rm_Sm_count (PreW D clX (tyX cI cL) ws0 [.ref (ad 0), .int a0] sz) (PstI D clX (tyX cI cL) ws0 (wX cI cL ad ma ko sh lo de wa me ru) sz r9) 0 0 (va_A ws0 sz) := by
  refine k_met (by decide) (Nat.le_of_ble_eq_true rfl) ?_
  intro p e s m below meth c ls hx hb hr hml hts hown hlk hnm hsz hP hK hD hA hz hl
  have hP : va_P D clX (wX cI cL ad ma ko sh lo de wa me ru) s.heap := by rw [← hw]; exact hP
  have hD : va_D (va_A ws0 sz) (wX cI cL ad ma ko sh lo de wa me ru) := by rw [← hw]; exact hD
  have hS : va_S (va_A ws0 sz) s.heap s.heap [] := va_S.rf
  have hl : lv_has ls 2 [(0, .ref (ad 0)), (1, .int a0)] := hl
  generalize hQ : MQ below (PstI D clX (tyX cI cL) ws0 (wX cI cL ad ma ko sh lo de wa me ru) sz r9) [.ref (ad 0), .int a0].toArray s 0 0 (va_A ws0 sz) = Q
  unfold r_Sm_count at h
  refine lv_iload_n hx hb d_Sm_count_0 rfl (lv_at hl 1 rfl) ?_
  by_cases c1 : a0 = (0 : Int32)
  · rw [if_pos c1] at h
    refine k_sw c1 ?_
    refine lv_tableIn (tgt := 40) hx hb d_Sm_count_1 (by decide) (by decide) rfl (by decide) ?_
    refine lv_aload_n hx hb d_Sm_count_40 rfl (lv_at hl 0 rfl) ?_
    refine rd_Sm_runner hx hb hts hown hK hP lk_229 d_Sm_count_41 ?_
    refine rdN_Ru_steps hx hb hts hown hK hP (hz.1) lk_193 (v := (ru_steps ru)) rfl d_Sm_count_44 ?_
    cases h
    subst hQ
    exact k_iret hx hb hr hlk hP hK hD hS d_Sm_count_47
  · rw [if_neg c1] at h
    by_cases c2 : a0 = (1 : Int32)
    · rw [if_pos c2] at h
      refine k_sw c2 ?_
      refine lv_tableIn (tgt := 48) hx hb d_Sm_count_1 (by decide) (by decide) rfl (by decide) ?_
      refine lv_aload_n hx hb d_Sm_count_48 rfl (lv_at hl 0 rfl) ?_
      refine rd_Sm_scans hx hb hts hown hK hP lk_234 (v := (ma_scans ma)) rfl d_Sm_count_49 ?_
      cases h
      subst hQ
      exact k_iret hx hb hr hlk hP hK hD hS d_Sm_count_52
    · rw [if_neg c2] at h
      by_cases c3 : a0 = (2 : Int32)
      · rw [if_pos c3] at h
        refine k_sw c3 ?_
        refine lv_tableIn (tgt := 53) hx hb d_Sm_count_1 (by decide) (by decide) rfl (by decide) ?_
        refine lv_aload_n hx hb d_Sm_count_53 rfl (lv_at hl 0 rfl) ?_
        refine rd_Sm_faults hx hb hts hown hK hP lk_235 (v := (ma_faults ma)) rfl d_Sm_count_54 ?_
        cases h
        subst hQ
        exact k_iret hx hb hr hlk hP hK hD hS d_Sm_count_57
      · rw [if_neg c3] at h
        by_cases c4 : a0 = (3 : Int32)
        · rw [if_pos c4] at h
          refine k_sw c4 ?_
          refine lv_tableIn (tgt := 58) hx hb d_Sm_count_1 (by decide) (by decide) rfl (by decide) ?_
          refine lv_aload_n hx hb d_Sm_count_58 rfl (lv_at hl 0 rfl) ?_
          refine rd_Sm_allowed hx hb hts hown hK hP lk_232 (v := (ma_allowed ma)) rfl d_Sm_count_59 ?_
          cases h
          subst hQ
          exact k_iret hx hb hr hlk hP hK hD hS d_Sm_count_62
        · rw [if_neg c4] at h
          by_cases c5 : a0 = (4 : Int32)
          · rw [if_pos c5] at h
            refine k_sw c5 ?_
            refine lv_tableIn (tgt := 63) hx hb d_Sm_count_1 (by decide) (by decide) rfl (by decide) ?_
            refine lv_aload_n hx hb d_Sm_count_63 rfl (lv_at hl 0 rfl) ?_
            refine rd_Sm_now hx hb hts hown hK hP lk_233 (v := (ma_now ma)) rfl d_Sm_count_64 ?_
            cases h
            subst hQ
            exact k_iret hx hb hr hlk hP hK hD hS d_Sm_count_67
          · rw [if_neg c5] at h
            by_cases c6 : a0 = (5 : Int32)
            · rw [if_pos c6] at h
              refine k_sw c6 ?_
              refine lv_tableIn (tgt := 68) hx hb d_Sm_count_1 (by decide) (by decide) rfl (by decide) ?_
              refine lv_aload_n hx hb d_Sm_count_68 rfl (lv_at hl 0 rfl) ?_
              refine rd_Sm_memory hx hb hts hown hK hP lk_228 d_Sm_count_69 ?_
              refine rdN_Me_deepest hx hb hts hown hK hP (hz.1) lk_156 (v := (me_deepest me)) rfl d_Sm_count_72 ?_
              cases h
              subst hQ
              exact k_iret hx hb hr hlk hP hK hD hS d_Sm_count_75
            · rw [if_neg c6] at h
              refine lv_tableOut (tgt := 76) hx hb d_Sm_count_1 (by have ec1 := lv_neT c1 (a := 0) (by decide); have ec2 := lv_neT c2 (a := 1) (by decide); have ec3 := lv_neT c3 (a := 2) (by decide); have ec4 := lv_neT c4 (a := 3) (by decide); have ec5 := lv_neT c5 (a := 4) (by decide); have ec6 := lv_neT c6 (a := 5) (by decide); omega) (by decide) ?_
              refine lv_iconst (v := -1) hx hb d_Sm_count_76 (by decide) ?_
              cases h
              subst hQ
              exact k_iret hx hb hr hlk hP hK hD hS d_Sm_count_77
theorem d_Sm_get_0 : decode b_Sm_get 0 = .ok (.aload_n 0, 1) := by decide +kernel
theorem d_Sm_get_1 : decode b_Sm_get 1 = .ok (.iload_n 1, 1) := by decide +kernel
theorem d_Sm_get_2 : decode b_Sm_get 2 = .ok (.invokevirtual 122, 3) := by decide +kernel
theorem d_Sm_get_5 : decode b_Sm_get 5 = .ok (.ifCond .eq 14, 3) := by decide +kernel
theorem d_Sm_get_8 : decode b_Sm_get 8 = .ok (.aload_n 0, 1) := by decide +kernel
theorem d_Sm_get_9 : decode b_Sm_get 9 = .ok (.getfield 49, 3) := by decide +kernel
theorem d_Sm_get_12 : decode b_Sm_get 12 = .ok (.iload_n 1, 1) := by decide +kernel
theorem d_Sm_get_13 : decode b_Sm_get 13 = .ok (.invokevirtual 126, 3) := by decide +kernel
theorem d_Sm_get_16 : decode b_Sm_get 16 = .ok (.goto 4, 3) := by decide +kernel
theorem d_Sm_get_19 : decode b_Sm_get 19 = .ok (.iconst (-1), 1) := by decide +kernel
theorem d_Sm_get_20 : decode b_Sm_get 20 = .ok (.ireturn, 1) := by decide +kernel
def r_Sm_get (n : Nat) (ma : T_ma) (me : T_me) (a0 : Int32) : Option (Int32) := (r_Sm_mayTouch n ma a0).bind (fun q1 => if q1 = 0 then some ((-1 : Int32)) else (r_Me_cell n me a0).bind (fun q3 => some (q3)))
def rm_Sm_get : Jvm.Room := { frames := 1, cells := 0, slots := 0, locals := 21 }
set_option maxHeartbeats 4000000 in
set_option maxRecDepth 100000 in
theorem c_Sm_get {l : Launch} {D : va_G} {cI cL : ClassId} {ad : Nat → Nat} {ma : T_ma} {ko : T_ko} {sh : T_sh} {lo : T_lo} {de : T_de} {wa : T_wa} {me : T_me} {ru : T_ru} {ws0 : va_W} {sz n : Nat} {a0 : Int32} {r9 : Int32} (hw : ws0 = (wX cI cL ad ma ko sh lo de wa me ru)) (h : r_Sm_get n ma me a0 = some r9) : Met l y_Sm_get (Cond.code y_Sm_get b_Sm_get 2 (some .int) :: TB) rm_Sm_get (PreW D clX (tyX cI cL) ws0 [.ref (ad 0), .int a0] sz) (PstI D clX (tyX cI cL) ws0 (wX cI cL ad ma ko sh lo de wa me ru) sz r9) 0 0 (va_A ws0 sz) := by
  refine k_met (by decide) (Nat.le_of_ble_eq_true rfl) ?_
  intro p e s m below meth c ls hx hb hr hml hts hown hlk hnm hsz hP hK hD hA hz hl
  have hP : va_P D clX (wX cI cL ad ma ko sh lo de wa me ru) s.heap := by rw [← hw]; exact hP
  have hD : va_D (va_A ws0 sz) (wX cI cL ad ma ko sh lo de wa me ru) := by rw [← hw]; exact hD
  have hS : va_S (va_A ws0 sz) s.heap s.heap [] := va_S.rf
  have hl : lv_has ls 2 [(0, .ref (ad 0)), (1, .int a0)] := hl
  generalize hQ : MQ below (PstI D clX (tyX cI cL) ws0 (wX cI cL ad ma ko sh lo de wa me ru) sz r9) [.ref (ad 0), .int a0].toArray s 0 0 (va_A ws0 sz) = Q
  unfold r_Sm_get at h
  refine lv_aload_n hx hb d_Sm_get_0 rfl (lv_at hl 0 rfl) ?_
  refine lv_iload_n hx hb d_Sm_get_1 rfl (lv_at hl 1 rfl) ?_
  obtain ⟨q1, hq1, h⟩ := Option.bind_eq_some_iff.mp h
  refine k_I (k_runV ⟨hx, hb, hml, hown, hts⟩ (c_Sm_mayTouch rfl hq1) ok_Sm_mayTouch is_Sm_mayTouch lk_659 rfl rfl ⟨by decide, by decide⟩ hP hK hD hS hA hz (ci := 0) (q0 := 0) rfl rfl ob_Sm rfl hl.1 rfl (Nat.le_of_ble_eq_true rfl) d_Sm_get_2 ⟨Nat.zero_le _, Nat.zero_le _⟩) hD hS hA (fun H locs hP hD hS => ?_)
  refine lv_if_eq (tgt := 19) hx hb d_Sm_get_5 (by decide) (fun c2 => ?_) (fun c2 => ?_)
  · rw [if_pos c2] at h
    refine lv_iconst (v := -1) hx hb d_Sm_get_19 (by decide) ?_
    cases h
    subst hQ
    exact k_iret hx hb hr hlk hP hK hD hS d_Sm_get_20
  · rw [if_neg c2] at h
    refine lv_aload_n hx hb d_Sm_get_8 rfl (lv_at hl 0 rfl) ?_
    refine rd_Sm_memory hx hb hts hown hK hP lk_228 d_Sm_get_9 ?_
    refine lv_iload_n hx hb d_Sm_get_12 rfl (lv_at hl 1 rfl) ?_
    obtain ⟨q3, hq3, h⟩ := Option.bind_eq_some_iff.mp h
    refine k_I (k_runVN ⟨hx, hb, hml, hown, hts⟩ (c_Me_cell rfl hq3) ok_Me_cell is_Me_cell lk_663 rfl rfl ⟨by decide, by decide⟩ hP hK hD hS hA hz (ci := 6) (q0 := 19) rfl rfl ob_Me rfl hl.1 rfl (Nat.le_of_ble_eq_true rfl) d_Sm_get_13 ⟨Nat.zero_le _, Nat.zero_le _⟩) hD hS hA (fun H locs hP hD hS => ?_)
    refine lv_goto (tgt := 20) hx hb d_Sm_get_16 (by decide) ?_
    cases h
    subst hQ
    exact k_iret hx hb hr hlk hP hK hD hS d_Sm_get_20
theorem d_Sm_set_0 : decode b_Sm_set 0 = .ok (.aload_n 0, 1) := by decide +kernel
theorem d_Sm_set_1 : decode b_Sm_set 1 = .ok (.iload_n 1, 1) := by decide +kernel
theorem d_Sm_set_2 : decode b_Sm_set 2 = .ok (.invokevirtual 122, 3) := by decide +kernel
theorem d_Sm_set_5 : decode b_Sm_set 5 = .ok (.ifCond .ne 5, 3) := by decide +kernel
theorem d_Sm_set_8 : decode b_Sm_set 8 = .ok (.iconst (-1), 1) := by decide +kernel
theorem d_Sm_set_9 : decode b_Sm_set 9 = .ok (.ireturn, 1) := by decide +kernel
theorem d_Sm_set_10 : decode b_Sm_set 10 = .ok (.aload_n 0, 1) := by decide +kernel
theorem d_Sm_set_11 : decode b_Sm_set 11 = .ok (.getfield 49, 3) := by decide +kernel
theorem d_Sm_set_14 : decode b_Sm_set 14 = .ok (.iload_n 1, 1) := by decide +kernel
theorem d_Sm_set_15 : decode b_Sm_set 15 = .ok (.invokevirtual 126, 3) := by decide +kernel
theorem d_Sm_set_18 : decode b_Sm_set 18 = .ok (.istore_n 3, 1) := by decide +kernel
theorem d_Sm_set_19 : decode b_Sm_set 19 = .ok (.aload_n 0, 1) := by decide +kernel
theorem d_Sm_set_20 : decode b_Sm_set 20 = .ok (.getfield 49, 3) := by decide +kernel
theorem d_Sm_set_23 : decode b_Sm_set 23 = .ok (.iload_n 1, 1) := by decide +kernel
theorem d_Sm_set_24 : decode b_Sm_set 24 = .ok (.iload_n 2, 1) := by decide +kernel
theorem d_Sm_set_25 : decode b_Sm_set 25 = .ok (.invokevirtual 129, 3) := by decide +kernel
theorem d_Sm_set_28 : decode b_Sm_set 28 = .ok (.iload_n 3, 1) := by decide +kernel
theorem d_Sm_set_29 : decode b_Sm_set 29 = .ok (.ireturn, 1) := by decide +kernel
def r_Sm_set (n : Nat) (ma : T_ma) (me : T_me) (a0 : Int32) (a1 : Int32) : Option (Int32 × T_me) := (r_Sm_mayTouch n ma a0).bind (fun q1 => if q1 = 0 then some ((-1 : Int32), me) else (r_Me_cell n me a0).bind (fun q3 => (r_Me_change n me a0 a1).bind (fun q4 => some (q3, q4))))
def rm_Sm_set : Jvm.Room := { frames := 1, cells := 0, slots := 0, locals := 22 }
set_option maxHeartbeats 4000000 in
set_option maxRecDepth 100000 in
theorem c_Sm_set {l : Launch} {D : va_G} {cI cL : ClassId} {ad : Nat → Nat} {ma : T_ma} {ko : T_ko} {sh : T_sh} {lo : T_lo} {de : T_de} {wa : T_wa} {me : T_me} {ru : T_ru} {ws0 : va_W} {sz n : Nat} {a0 : Int32} {a1 : Int32} {r9 : Int32} {me9 : T_me} (hw : ws0 = (wX cI cL ad ma ko sh lo de wa me ru)) (h : r_Sm_set n ma me a0 a1 = some (r9, me9)) : Met l y_Sm_set (Cond.code y_Sm_set b_Sm_set 4 (some .int) :: TB) rm_Sm_set (PreW D clX (tyX cI cL) ws0 [.ref (ad 0), .int a0, .int a1] sz) (PstI D clX (tyX cI cL) ws0 (wX cI cL ad ma ko sh lo de wa (me9) ru) sz r9) 0 0 (va_A ws0 sz) := by
  refine k_met (by decide) (Nat.le_of_ble_eq_true rfl) ?_
  intro p e s m below meth c ls hx hb hr hml hts hown hlk hnm hsz hP hK hD hA hz hl
  have hP : va_P D clX (wX cI cL ad ma ko sh lo de wa me ru) s.heap := by rw [← hw]; exact hP
  have hD : va_D (va_A ws0 sz) (wX cI cL ad ma ko sh lo de wa me ru) := by rw [← hw]; exact hD
  have hS : va_S (va_A ws0 sz) s.heap s.heap [] := va_S.rf
  have hl : lv_has ls 4 [(0, .ref (ad 0)), (1, .int a0), (2, .int a1)] := hl
  generalize hQ : MQ below (PstI D clX (tyX cI cL) ws0 (wX cI cL ad ma ko sh lo de wa (me9) ru) sz r9) [.ref (ad 0), .int a0, .int a1].toArray s 0 0 (va_A ws0 sz) = Q
  unfold r_Sm_set at h
  refine lv_aload_n hx hb d_Sm_set_0 rfl (lv_at hl 0 rfl) ?_
  refine lv_iload_n hx hb d_Sm_set_1 rfl (lv_at hl 1 rfl) ?_
  obtain ⟨q1, hq1, h⟩ := Option.bind_eq_some_iff.mp h
  refine k_I (k_runV ⟨hx, hb, hml, hown, hts⟩ (c_Sm_mayTouch rfl hq1) ok_Sm_mayTouch is_Sm_mayTouch lk_659 rfl rfl ⟨by decide, by decide⟩ hP hK hD hS hA hz (ci := 0) (q0 := 0) rfl rfl ob_Sm rfl hl.1 rfl (Nat.le_of_ble_eq_true rfl) d_Sm_set_2 ⟨Nat.zero_le _, Nat.zero_le _⟩) hD hS hA (fun H locs hP hD hS => ?_)
  refine lv_if_ne (tgt := 10) hx hb d_Sm_set_5 (by decide) (fun c2 => ?_) (fun c2 => ?_)
  · rw [if_neg c2] at h
    refine lv_aload_n hx hb d_Sm_set_10 rfl (lv_at hl 0 rfl) ?_
    refine rd_Sm_memory hx hb hts hown hK hP lk_228 d_Sm_set_11 ?_
    refine lv_iload_n hx hb d_Sm_set_14 rfl (lv_at hl 1 rfl) ?_
    obtain ⟨q3, hq3, h⟩ := Option.bind_eq_some_iff.mp h
    refine k_I (k_runVN ⟨hx, hb, hml, hown, hts⟩ (c_Me_cell rfl hq3) ok_Me_cell is_Me_cell lk_663 rfl rfl ⟨by decide, by decide⟩ hP hK hD hS hA hz (ci := 6) (q0 := 19) rfl rfl ob_Me rfl hl.1 rfl (Nat.le_of_ble_eq_true rfl) d_Sm_set_15 ⟨Nat.zero_le _, Nat.zero_le _⟩) hD hS hA (fun H locs hP hD hS => ?_)
    refine lv_istore_n (lv' := [(3, .int q3), (0, .ref (ad 0)), (1, .int a0), (2, .int a1)]) hx hb d_Sm_set_18 rfl hl (by decide) rfl (fun ls hl => ?_)
    refine lv_aload_n hx hb d_Sm_set_19 rfl (lv_at hl 1 rfl) ?_
    refine rd_Sm_memory hx hb hts hown hK hP lk_228 d_Sm_set_20 ?_
    refine lv_iload_n hx hb d_Sm_set_23 rfl (lv_at hl 2 rfl) ?_
    refine lv_iload_n hx hb d_Sm_set_24 rfl (lv_at hl 3 rfl) ?_
    obtain ⟨q4, hq4, h⟩ := Option.bind_eq_some_iff.mp h
    refine k_V (k_runVN ⟨hx, hb, hml, hown, hts⟩ (c_Me_change rfl hq4) ok_Me_change is_Me_change lk_664 rfl rfl ⟨by decide, by decide⟩ hP hK hD hS hA hz (ci := 6) (q0 := 19) rfl rfl ob_Me rfl hl.1 rfl (Nat.le_of_ble_eq_true rfl) d_Sm_set_25 ⟨Nat.zero_le _, Nat.zero_le _⟩) hD hS hA (fun H locs hP hD hS => ?_)
    refine lv_iload_n hx hb d_Sm_set_28 rfl (lv_at hl 0 rfl) ?_
    cases h
    subst hQ
    exact k_iret hx hb hr hlk hP hK hD hS d_Sm_set_29
  · rw [if_pos c2] at h
    refine lv_iconst (v := -1) hx hb d_Sm_set_8 (by decide) ?_
    cases h
    subst hQ
    exact k_iret hx hb hr hlk hP hK hD hS d_Sm_set_9
theorem d_Sm_scan_0 : decode b_Sm_scan 0 = .ok (.aload_n 0, 1) := by decide +kernel
theorem d_Sm_scan_1 : decode b_Sm_scan 1 = .ok (.getfield 104, 3) := by decide +kernel
theorem d_Sm_scan_4 : decode b_Sm_scan 4 = .ok (.ifCond .eq 24, 3) := by decide +kernel
theorem d_Sm_scan_7 : decode b_Sm_scan 7 = .ok (.iload_n 1, 1) := by decide +kernel
theorem d_Sm_scan_8 : decode b_Sm_scan 8 = .ok (.ifCond .lt 20, 3) := by decide +kernel
theorem d_Sm_scan_11 : decode b_Sm_scan 11 = .ok (.iload_n 1, 1) := by decide +kernel
theorem d_Sm_scan_12 : decode b_Sm_scan 12 = .ok (.ldc 108, 2) := by decide +kernel
theorem d_Sm_scan_14 : decode b_Sm_scan 14 = .ok (.if_icmp .gt 14, 3) := by decide +kernel
theorem d_Sm_scan_17 : decode b_Sm_scan 17 = .ok (.iload_n 1, 1) := by decide +kernel
theorem d_Sm_scan_18 : decode b_Sm_scan 18 = .ok (.ldc 109, 2) := by decide +kernel
theorem d_Sm_scan_20 : decode b_Sm_scan 20 = .ok (.aload_n 0, 1) := by decide +kernel
theorem d_Sm_scan_21 : decode b_Sm_scan 21 = .ok (.getfield 110, 3) := by decide +kernel
theorem d_Sm_scan_24 : decode b_Sm_scan 24 = .ok (.isub, 1) := by decide +kernel
theorem d_Sm_scan_25 : decode b_Sm_scan 25 = .ok (.if_icmp .le 5, 3) := by decide +kernel
theorem d_Sm_scan_28 : decode b_Sm_scan 28 = .ok (.iconst (-1), 1) := by decide +kernel
theorem d_Sm_scan_29 : decode b_Sm_scan 29 = .ok (.ireturn, 1) := by decide +kernel
theorem d_Sm_scan_30 : decode b_Sm_scan 30 = .ok (.aload_n 0, 1) := by decide +kernel
theorem d_Sm_scan_31 : decode b_Sm_scan 31 = .ok (.dup, 1) := by decide +kernel
theorem d_Sm_scan_32 : decode b_Sm_scan 32 = .ok (.getfield 110, 3) := by decide +kernel
theorem d_Sm_scan_35 : decode b_Sm_scan 35 = .ok (.iload_n 1, 1) := by decide +kernel
theorem d_Sm_scan_36 : decode b_Sm_scan 36 = .ok (.iadd, 1) := by decide +kernel
theorem d_Sm_scan_37 : decode b_Sm_scan 37 = .ok (.putfield 110, 3) := by decide +kernel
theorem d_Sm_scan_40 : decode b_Sm_scan 40 = .ok (.aload_n 0, 1) := by decide +kernel
theorem d_Sm_scan_41 : decode b_Sm_scan 41 = .ok (.dup, 1) := by decide +kernel
theorem d_Sm_scan_42 : decode b_Sm_scan 42 = .ok (.getfield 113, 3) := by decide +kernel
theorem d_Sm_scan_45 : decode b_Sm_scan 45 = .ok (.iconst 1, 1) := by decide +kernel
theorem d_Sm_scan_46 : decode b_Sm_scan 46 = .ok (.iadd, 1) := by decide +kernel
theorem d_Sm_scan_47 : decode b_Sm_scan 47 = .ok (.putfield 113, 3) := by decide +kernel
theorem d_Sm_scan_50 : decode b_Sm_scan 50 = .ok (.aload_n 0, 1) := by decide +kernel
theorem d_Sm_scan_51 : decode b_Sm_scan 51 = .ok (.getfield 58, 3) := by decide +kernel
theorem d_Sm_scan_54 : decode b_Sm_scan 54 = .ok (.aload_n 0, 1) := by decide +kernel
theorem d_Sm_scan_55 : decode b_Sm_scan 55 = .ok (.getfield 110, 3) := by decide +kernel
theorem d_Sm_scan_58 : decode b_Sm_scan 58 = .ok (.invokevirtual 116, 3) := by decide +kernel
theorem d_Sm_scan_61 : decode b_Sm_scan 61 = .ok (.istore_n 2, 1) := by decide +kernel
theorem d_Sm_scan_62 : decode b_Sm_scan 62 = .ok (.iload_n 2, 1) := by decide +kernel
theorem d_Sm_scan_63 : decode b_Sm_scan 63 = .ok (.ifCond .ge 13, 3) := by decide +kernel
theorem d_Sm_scan_66 : decode b_Sm_scan 66 = .ok (.aload_n 0, 1) := by decide +kernel
theorem d_Sm_scan_67 : decode b_Sm_scan 67 = .ok (.dup, 1) := by decide +kernel
theorem d_Sm_scan_68 : decode b_Sm_scan 68 = .ok (.getfield 119, 3) := by decide +kernel
theorem d_Sm_scan_71 : decode b_Sm_scan 71 = .ok (.iconst 1, 1) := by decide +kernel
theorem d_Sm_scan_72 : decode b_Sm_scan 72 = .ok (.iadd, 1) := by decide +kernel
theorem d_Sm_scan_73 : decode b_Sm_scan 73 = .ok (.putfield 119, 3) := by decide +kernel
theorem d_Sm_scan_76 : decode b_Sm_scan 76 = .ok (.iload_n 2, 1) := by decide +kernel
theorem d_Sm_scan_77 : decode b_Sm_scan 77 = .ok (.ireturn, 1) := by decide +kernel
def r_Sm_scan (n : Nat) (ma : T_ma) (ko : T_ko) (me : T_me) (ru : T_ru) (a0 : Int32) : Option (Int32 × T_ma × T_me × T_ru) := if (ma_ready ma) = 0 then some ((-1 : Int32), ma, me, ru) else if a0 < 0 then some ((-1 : Int32), ma, me, ru) else if (100000000 : Int32) < a0 then some ((-1 : Int32), ma, me, ru) else if a0 ≤ ((2000000000 : Int32) - (ma_now ma)) then (r_Ru_run n ko me ru (ma_now (ma_scans_s (ma_now_s ma ((ma_now ma) + a0)) ((ma_scans (ma_now_s ma ((ma_now ma) + a0))) + (1 : Int32))))).bind (fun q5 => if 0 ≤ q5.1 then some (q5.1, (ma_scans_s (ma_now_s ma ((ma_now ma) + a0)) ((ma_scans (ma_now_s ma ((ma_now ma) + a0))) + (1 : Int32))), q5.2.1, q5.2.2) else some (q5.1, (ma_faults_s (ma_scans_s (ma_now_s ma ((ma_now ma) + a0)) ((ma_scans (ma_now_s ma ((ma_now ma) + a0))) + (1 : Int32))) ((ma_faults (ma_scans_s (ma_now_s ma ((ma_now ma) + a0)) ((ma_scans (ma_now_s ma ((ma_now ma) + a0))) + (1 : Int32)))) + (1 : Int32))), q5.2.1, q5.2.2)) else some ((-1 : Int32), ma, me, ru)
def rm_Sm_scan : Jvm.Room := { frames := 7, cells := 0, slots := 0, locals := 170 }
set_option maxHeartbeats 4000000 in
set_option maxRecDepth 100000 in
theorem c_Sm_scan {l : Launch} {D : va_G} {cI cL : ClassId} {ad : Nat → Nat} {ma : T_ma} {ko : T_ko} {sh : T_sh} {lo : T_lo} {de : T_de} {wa : T_wa} {me : T_me} {ru : T_ru} {ws0 : va_W} {sz n : Nat} {a0 : Int32} {r9 : Int32} {ma9 : T_ma} {me9 : T_me} {ru9 : T_ru} (hw : ws0 = (wX cI cL ad ma ko sh lo de wa me ru)) (h : r_Sm_scan n ma ko me ru a0 = some (r9, ma9, me9, ru9)) : Met l y_Sm_scan (Cond.code y_Sm_scan b_Sm_scan 3 (some .int) :: TB) rm_Sm_scan (PreW D clX (tyX cI cL) ws0 [.ref (ad 0), .int a0] sz) (PstI D clX (tyX cI cL) ws0 (wX cI cL ad (ma9) ko sh lo de wa (me9) (ru9)) sz r9) 0 0 (va_A ws0 sz) := by
  refine k_met (by decide) (Nat.le_of_ble_eq_true rfl) ?_
  intro p e s m below meth c ls hx hb hr hml hts hown hlk hnm hsz hP hK hD hA hz hl
  have hP : va_P D clX (wX cI cL ad ma ko sh lo de wa me ru) s.heap := by rw [← hw]; exact hP
  have hD : va_D (va_A ws0 sz) (wX cI cL ad ma ko sh lo de wa me ru) := by rw [← hw]; exact hD
  have hS : va_S (va_A ws0 sz) s.heap s.heap [] := va_S.rf
  have hl : lv_has ls 3 [(0, .ref (ad 0)), (1, .int a0)] := hl
  generalize hQ : MQ below (PstI D clX (tyX cI cL) ws0 (wX cI cL ad (ma9) ko sh lo de wa (me9) (ru9)) sz r9) [.ref (ad 0), .int a0].toArray s 0 0 (va_A ws0 sz) = Q
  unfold r_Sm_scan at h
  refine lv_aload_n hx hb d_Sm_scan_0 rfl (lv_at hl 0 rfl) ?_
  refine rd_Sm_ready hx hb hts hown hK hP lk_231 (v := (ma_ready ma)) rfl d_Sm_scan_1 ?_
  refine lv_if_eq (tgt := 28) hx hb d_Sm_scan_4 (by decide) (fun c1 => ?_) (fun c1 => ?_)
  · rw [if_pos c1] at h
    refine lv_iconst (v := -1) hx hb d_Sm_scan_28 (by decide) ?_
    cases h
    subst hQ
    exact k_iret hx hb hr hlk hP hK hD hS d_Sm_scan_29
  · rw [if_neg c1] at h
    refine lv_iload_n hx hb d_Sm_scan_7 rfl (lv_at hl 1 rfl) ?_
    refine lv_if_lt (tgt := 28) hx hb d_Sm_scan_8 (by decide) (fun c2 => ?_) (fun c2 => ?_)
    · rw [if_pos c2] at h
      refine lv_iconst (v := -1) hx hb d_Sm_scan_28 (by decide) ?_
      cases h
      subst hQ
      exact k_iret hx hb hr hlk hP hK hD hS d_Sm_scan_29
    · rw [if_neg c2] at h
      refine lv_iload_n hx hb d_Sm_scan_11 rfl (lv_at hl 1 rfl) ?_
      refine lv_ldc (v := 100000000) hx hb hown (hts _ lk_522) d_Sm_scan_12 ?_
      refine lv_icmp_gt (tgt := 28) hx hb d_Sm_scan_14 (by decide) (fun c3 => ?_) (fun c3 => ?_)
      · rw [if_pos c3] at h
        refine lv_iconst (v := -1) hx hb d_Sm_scan_28 (by decide) ?_
        cases h
        subst hQ
        exact k_iret hx hb hr hlk hP hK hD hS d_Sm_scan_29
      · rw [if_neg c3] at h
        refine lv_iload_n hx hb d_Sm_scan_17 rfl (lv_at hl 1 rfl) ?_
        refine lv_ldc (v := 2000000000) hx hb hown (hts _ lk_523) d_Sm_scan_18 ?_
        refine lv_aload_n hx hb d_Sm_scan_20 rfl (lv_at hl 0 rfl) ?_
        refine rd_Sm_now hx hb hts hown hK hP lk_233 (v := (ma_now ma)) rfl d_Sm_scan_21 ?_
        refine lv_isub hx hb d_Sm_scan_24 ?_
        refine lv_icmp_le (tgt := 30) hx hb d_Sm_scan_25 (by decide) (fun c4 => ?_) (fun c4 => ?_)
        · rw [if_pos c4] at h
          refine lv_aload_n hx hb d_Sm_scan_30 rfl (lv_at hl 0 rfl) ?_
          refine lv_dup hx hb d_Sm_scan_31 rfl ?_
          refine rd_Sm_now hx hb hts hown hK hP lk_233 (v := (ma_now ma)) rfl d_Sm_scan_32 ?_
          refine lv_iload_n hx hb d_Sm_scan_35 rfl (lv_at hl 1 rfl) ?_
          refine lv_iadd hx hb d_Sm_scan_36 ?_
          refine wr_Sm_now hx hb hts hown hK hP hD hS lk_233 d_Sm_scan_37 (fun H locs hP hD hS => ?_)
          refine lv_aload_n hx hb d_Sm_scan_40 rfl (lv_at hl 0 rfl) ?_
          refine lv_dup hx hb d_Sm_scan_41 rfl ?_
          refine rd_Sm_scans hx hb hts hown hK hP lk_234 (v := (ma_scans (ma_now_s ma ((ma_now ma) + a0)))) rfl d_Sm_scan_42 ?_
          refine lv_iconst (v := 1) hx hb d_Sm_scan_45 (by decide) ?_
          refine lv_iadd hx hb d_Sm_scan_46 ?_
          refine wr_Sm_scans hx hb hts hown hK hP hD hS lk_234 d_Sm_scan_47 (fun H locs hP hD hS => ?_)
          refine lv_aload_n hx hb d_Sm_scan_50 rfl (lv_at hl 0 rfl) ?_
          refine rd_Sm_runner hx hb hts hown hK hP lk_229 d_Sm_scan_51 ?_
          refine lv_aload_n hx hb d_Sm_scan_54 rfl (lv_at hl 0 rfl) ?_
          refine rd_Sm_now hx hb hts hown hK hP lk_233 (v := (ma_now (ma_scans_s (ma_now_s ma ((ma_now ma) + a0)) ((ma_scans (ma_now_s ma ((ma_now ma) + a0))) + (1 : Int32))))) rfl d_Sm_scan_55 ?_
          obtain ⟨q5, hq5, h⟩ := Option.bind_eq_some_iff.mp h
          refine k_I (k_runVN ⟨hx, hb, hml, hown, hts⟩ (c_Ru_run rfl hq5) ok_Ru_run is_Ru_run lk_524 rfl rfl ⟨by decide, by decide⟩ hP hK hD hS hA hz (ci := 7) (q0 := 22) rfl rfl ob_Ru rfl hl.1 rfl (Nat.le_of_ble_eq_true rfl) d_Sm_scan_58 ⟨Nat.zero_le _, Nat.zero_le _⟩) hD hS hA (fun H locs hP hD hS => ?_)
          refine lv_istore_n (lv' := [(2, .int q5.1), (0, .ref (ad 0)), (1, .int a0)]) hx hb d_Sm_scan_61 rfl hl (by decide) rfl (fun ls hl => ?_)
          refine lv_iload_n hx hb d_Sm_scan_62 rfl (lv_at hl 0 rfl) ?_
          refine lv_if_ge (tgt := 76) hx hb d_Sm_scan_63 (by decide) (fun c6 => ?_) (fun c6 => ?_)
          · rw [if_pos c6] at h
            refine lv_iload_n hx hb d_Sm_scan_76 rfl (lv_at hl 0 rfl) ?_
            cases h
            subst hQ
            exact k_iret hx hb hr hlk hP hK hD hS d_Sm_scan_77
          · rw [if_neg c6] at h
            refine lv_aload_n hx hb d_Sm_scan_66 rfl (lv_at hl 1 rfl) ?_
            refine lv_dup hx hb d_Sm_scan_67 rfl ?_
            refine rd_Sm_faults hx hb hts hown hK hP lk_235 (v := (ma_faults (ma_scans_s (ma_now_s ma ((ma_now ma) + a0)) ((ma_scans (ma_now_s ma ((ma_now ma) + a0))) + (1 : Int32))))) rfl d_Sm_scan_68 ?_
            refine lv_iconst (v := 1) hx hb d_Sm_scan_71 (by decide) ?_
            refine lv_iadd hx hb d_Sm_scan_72 ?_
            refine wr_Sm_faults hx hb hts hown hK hP hD hS lk_235 d_Sm_scan_73 (fun H locs hP hD hS => ?_)
            refine lv_iload_n hx hb d_Sm_scan_76 rfl (lv_at hl 0 rfl) ?_
            cases h
            subst hQ
            exact k_iret hx hb hr hlk hP hK hD hS d_Sm_scan_77
        · rw [if_neg c4] at h
          refine lv_iconst (v := -1) hx hb d_Sm_scan_28 (by decide) ?_
          cases h
          subst hQ
          exact k_iret hx hb hr hlk hP hK hD hS d_Sm_scan_29
theorem d_Sm_start_0 : decode b_Sm_start 0 = .ok (.aload_n 0, 1) := by decide +kernel
theorem d_Sm_start_1 : decode b_Sm_start 1 = .ok (.invokevirtual 66, 3) := by decide +kernel
theorem d_Sm_start_4 : decode b_Sm_start 4 = .ok (.aload_n 0, 1) := by decide +kernel
theorem d_Sm_start_5 : decode b_Sm_start 5 = .ok (.getfield 10, 3) := by decide +kernel
theorem d_Sm_start_8 : decode b_Sm_start 8 = .ok (.invokevirtual 87, 3) := by decide +kernel
theorem d_Sm_start_11 : decode b_Sm_start 11 = .ok (.istore_n 1, 1) := by decide +kernel
theorem d_Sm_start_12 : decode b_Sm_start 12 = .ok (.iload_n 1, 1) := by decide +kernel
theorem d_Sm_start_13 : decode b_Sm_start 13 = .ok (.ifCond .ne 6, 3) := by decide +kernel
theorem d_Sm_start_16 : decode b_Sm_start 16 = .ok (.bipush 13, 2) := by decide +kernel
theorem d_Sm_start_18 : decode b_Sm_start 18 = .ok (.ireturn, 1) := by decide +kernel
theorem d_Sm_start_19 : decode b_Sm_start 19 = .ok (.iconst 0, 1) := by decide +kernel
theorem d_Sm_start_20 : decode b_Sm_start 20 = .ok (.istore_n 2, 1) := by decide +kernel
theorem d_Sm_start_21 : decode b_Sm_start 21 = .ok (.iload_n 2, 1) := by decide +kernel
theorem d_Sm_start_22 : decode b_Sm_start 22 = .ok (.iload_n 1, 1) := by decide +kernel
theorem d_Sm_start_23 : decode b_Sm_start 23 = .ok (.if_icmp .ge 21, 3) := by decide +kernel
theorem d_Sm_start_26 : decode b_Sm_start 26 = .ok (.aload_n 0, 1) := by decide +kernel
theorem d_Sm_start_27 : decode b_Sm_start 27 = .ok (.iload_n 2, 1) := by decide +kernel
theorem d_Sm_start_28 : decode b_Sm_start 28 = .ok (.invokevirtual 91, 3) := by decide +kernel
theorem d_Sm_start_31 : decode b_Sm_start 31 = .ok (.istore_n 3, 1) := by decide +kernel
theorem d_Sm_start_32 : decode b_Sm_start 32 = .ok (.iload_n 3, 1) := by decide +kernel
theorem d_Sm_start_33 : decode b_Sm_start 33 = .ok (.ifCond .eq 5, 3) := by decide +kernel
theorem d_Sm_start_36 : decode b_Sm_start 36 = .ok (.iload_n 3, 1) := by decide +kernel
theorem d_Sm_start_37 : decode b_Sm_start 37 = .ok (.ireturn, 1) := by decide +kernel
theorem d_Sm_start_38 : decode b_Sm_start 38 = .ok (.iinc 2 1, 3) := by decide +kernel
theorem d_Sm_start_41 : decode b_Sm_start 41 = .ok (.goto (-20), 3) := by decide +kernel
theorem d_Sm_start_44 : decode b_Sm_start 44 = .ok (.aload_n 0, 1) := by decide +kernel
theorem d_Sm_start_45 : decode b_Sm_start 45 = .ok (.getfield 42, 3) := by decide +kernel
theorem d_Sm_start_48 : decode b_Sm_start 48 = .ok (.iload_n 1, 1) := by decide +kernel
theorem d_Sm_start_49 : decode b_Sm_start 49 = .ok (.iconst 1, 1) := by decide +kernel
theorem d_Sm_start_50 : decode b_Sm_start 50 = .ok (.isub, 1) := by decide +kernel
theorem d_Sm_start_51 : decode b_Sm_start 51 = .ok (.invokevirtual 95, 3) := by decide +kernel
theorem d_Sm_start_54 : decode b_Sm_start 54 = .ok (.lstore_n 2, 1) := by decide +kernel
theorem d_Sm_start_55 : decode b_Sm_start 55 = .ok (.lload_n 2, 1) := by decide +kernel
theorem d_Sm_start_56 : decode b_Sm_start 56 = .ok (.ldc2_w 99, 3) := by decide +kernel
theorem d_Sm_start_59 : decode b_Sm_start 59 = .ok (.lcmp, 1) := by decide +kernel
theorem d_Sm_start_60 : decode b_Sm_start 60 = .ok (.ifCond .le 6, 3) := by decide +kernel
theorem d_Sm_start_63 : decode b_Sm_start 63 = .ok (.bipush 12, 2) := by decide +kernel
theorem d_Sm_start_65 : decode b_Sm_start 65 = .ok (.ireturn, 1) := by decide +kernel
theorem d_Sm_start_66 : decode b_Sm_start 66 = .ok (.aload_n 0, 1) := by decide +kernel
theorem d_Sm_start_67 : decode b_Sm_start 67 = .ok (.lload_n 2, 1) := by decide +kernel
theorem d_Sm_start_68 : decode b_Sm_start 68 = .ok (.l2i, 1) := by decide +kernel
theorem d_Sm_start_69 : decode b_Sm_start 69 = .ok (.putfield 101, 3) := by decide +kernel
theorem d_Sm_start_72 : decode b_Sm_start 72 = .ok (.aload_n 0, 1) := by decide +kernel
theorem d_Sm_start_73 : decode b_Sm_start 73 = .ok (.iconst 1, 1) := by decide +kernel
theorem d_Sm_start_74 : decode b_Sm_start 74 = .ok (.putfield 104, 3) := by decide +kernel
theorem d_Sm_start_77 : decode b_Sm_start 77 = .ok (.iconst 0, 1) := by decide +kernel
theorem d_Sm_start_78 : decode b_Sm_start 78 = .ok (.ireturn, 1) := by decide +kernel
def r_Sm_start_l21 (n : Nat) (ko : T_ko)  : Nat → T_ma → T_sh → T_lo → T_de → T_wa → T_me → T_ru → Int32 → Int32 → Option (Int32 × T_ma × T_sh × T_lo × T_de × T_wa × T_me × T_ru)
  | 0, _, _, _, _, _, _, _, _, _ => none
  | f + 1, ma, sh, lo, de, wa, me, ru, x1, x2 => if x1 ≤ x2 then (r_Wa_stepsOf n wa (x1 - (1 : Int32))).bind (fun q2 => if (lg_cmp q2 (20000 : Int64)) ≤ 0 then some ((0 : Int32), (ma_ready_s (ma_allowed_s ma q2.toInt32) (1 : Int32)), sh, lo, de, wa, me, ru) else some ((12 : Int32), ma, sh, lo, de, wa, me, ru)) else (r_Sm_firstFault n ma ko sh lo de wa x2).bind (fun q4 => if q4.1 = 0 then (r_Sm_start_l21 n ko f) ma q4.2.1 q4.2.2.1 q4.2.2.2.1 q4.2.2.2.2 me ru x1 (x2 + 1) else some (q4.1, ma, q4.2.1, q4.2.2.1, q4.2.2.2.1, q4.2.2.2.2, me, ru))
def r_Sm_start (n : Nat) (ma : T_ma) (ko : T_ko) (sh : T_sh) (lo : T_lo) (de : T_de) (wa : T_wa) (me : T_me) (ru : T_ru)  : Option (Int32 × T_ma × T_sh × T_lo × T_de × T_wa × T_me × T_ru) := (r_Sm_halt n ma me ru).bind (fun q6 => (r_Co_unitCount n ko).bind (fun q7 => if q7 = 0 then some ((13 : Int32), q6.1, sh, lo, de, wa, q6.2.1, q6.2.2) else r_Sm_start_l21 n ko n q6.1 sh lo de wa q6.2.1 q6.2.2 q7 (0 : Int32)))
def rm_Sm_start : Jvm.Room := { frames := 7, cells := 0, slots := 0, locals := 167 }
set_option maxHeartbeats 4000000 in
set_option maxRecDepth 100000 in
theorem c_Sm_start {l : Launch} {D : va_G} {cI cL : ClassId} {ad : Nat → Nat} {ma : T_ma} {ko : T_ko} {sh : T_sh} {lo : T_lo} {de : T_de} {wa : T_wa} {me : T_me} {ru : T_ru} {ws0 : va_W} {sz n : Nat}  {r9 : Int32} {ma9 : T_ma} {sh9 : T_sh} {lo9 : T_lo} {de9 : T_de} {wa9 : T_wa} {me9 : T_me} {ru9 : T_ru} (hw : ws0 = (wX cI cL ad ma ko sh lo de wa me ru)) (h : r_Sm_start n ma ko sh lo de wa me ru  = some (r9, ma9, sh9, lo9, de9, wa9, me9, ru9)) : Met l y_Sm_start (Cond.code y_Sm_start b_Sm_start 4 (some .int) :: TB) rm_Sm_start (PreW D clX (tyX cI cL) ws0 [.ref (ad 0)] sz) (PstI D clX (tyX cI cL) ws0 (wX cI cL ad (ma9) ko (sh9) (lo9) (de9) (wa9) (me9) (ru9)) sz r9) 0 0 (va_A ws0 sz) := by
  refine k_met (by decide) (Nat.le_of_ble_eq_true rfl) ?_
  intro p e s m below meth c ls hx hb hr hml hts hown hlk hnm hsz hP hK hD hA hz hl
  have hP : va_P D clX (wX cI cL ad ma ko sh lo de wa me ru) s.heap := by rw [← hw]; exact hP
  have hD : va_D (va_A ws0 sz) (wX cI cL ad ma ko sh lo de wa me ru) := by rw [← hw]; exact hD
  have hS : va_S (va_A ws0 sz) s.heap s.heap [] := va_S.rf
  have hl : lv_has ls 4 [(0, .ref (ad 0))] := hl
  generalize hQ : MQ below (PstI D clX (tyX cI cL) ws0 (wX cI cL ad (ma9) ko (sh9) (lo9) (de9) (wa9) (me9) (ru9)) sz r9) [.ref (ad 0)].toArray s 0 0 (va_A ws0 sz) = Q
  have L21 : ∀ (f21 : Nat), ∀ (ma : T_ma) (sh : T_sh) (lo : T_lo) (de : T_de) (wa : T_wa) (me : T_me) (ru : T_ru) (x1 : Int32) (x2 : Int32) (H : Heap) (locs : List Loc) (ls : Array Slot), r_Sm_start_l21 n ko f21 ma sh lo de wa me ru x1 x2 = some (r9, ma9, sh9, lo9, de9, wa9, me9, ru9) → va_P D clX (wX cI cL ad ma ko sh lo de wa me ru) H → va_D (va_A ws0 sz) (wX cI cL ad ma ko sh lo de wa me ru) → va_S (va_A ws0 sz) s.heap H locs → lv_has ls 4 [(0, .ref (ad 0)), (1, .int x1), (2, .int x2)] → W p l e rm_Sm_start s m [.ref (ad 0)].toArray below meth c H locs 0 0 Q (F0 m 21 ls []) := by
    intro f21
    induction f21 with
    | zero =>
      intro ma sh lo de wa me ru x1 x2 H locs ls h hP hD hS hl
      exact absurd h (by intro h; cases h)
    | succ f21 ih21 =>
      intro ma sh lo de wa me ru x1 x2 H locs ls h hP hD hS hl
      rw [r_Sm_start_l21] at h
      refine lv_iload_n hx hb d_Sm_start_21 rfl (lv_at hl 2 rfl) ?_
      refine lv_iload_n hx hb d_Sm_start_22 rfl (lv_at hl 1 rfl) ?_
      refine lv_icmp_ge (tgt := 44) hx hb d_Sm_start_23 (by decide) (fun c1 => ?_) (fun c1 => ?_)
      · rw [if_pos c1] at h
        refine lv_aload_n hx hb d_Sm_start_44 rfl (lv_at hl 0 rfl) ?_
        refine rd_Sm_ways hx hb hts hown hK hP lk_227 d_Sm_start_45 ?_
        refine lv_iload_n hx hb d_Sm_start_48 rfl (lv_at hl 1 rfl) ?_
        refine lv_iconst (v := 1) hx hb d_Sm_start_49 (by decide) ?_
        refine lv_isub hx hb d_Sm_start_50 ?_
        obtain ⟨q2, hq2, h⟩ := Option.bind_eq_some_iff.mp h
        refine k_L (k_runVN ⟨hx, hb, hml, hown, hts⟩ (c_Wa_stepsOf rfl hq2) ok_Wa_stepsOf is_Wa_stepsOf lk_516 rfl rfl ⟨by decide, by decide⟩ hP hK hD hS hA hz (ci := 5) (q0 := 15) rfl rfl ob_Wa rfl hl.1 rfl (Nat.le_of_ble_eq_true rfl) d_Sm_start_51 ⟨Nat.zero_le _, Nat.zero_le _⟩) hD hS hA (fun H locs hP hD hS => ?_)
        refine lv_lstore_n (lv' := [(2, .long q2), (0, .ref (ad 0)), (1, .int x1)]) hx hb d_Sm_start_54 rfl hl (by decide) rfl (fun ls hl => ?_)
        refine lv_lload_n hx hb d_Sm_start_55 rfl (lv_at hl 0 rfl) ?_
        refine lv_ldc2 (v := 20000) hx hb hown (hts _ lk_517) d_Sm_start_56 ?_
        refine W.lcmp hx hb d_Sm_start_59 ?_
        refine lv_if_le (tgt := 66) hx hb d_Sm_start_60 (by decide) (fun c3 => ?_) (fun c3 => ?_)
        · rw [if_pos c3] at h
          refine lv_aload_n hx hb d_Sm_start_66 rfl (lv_at hl 1 rfl) ?_
          refine lv_lload_n hx hb d_Sm_start_67 rfl (lv_at hl 0 rfl) ?_
          refine lv_l2i (v := q2.toInt32) hx hb d_Sm_start_68 rfl ?_
          refine wr_Sm_allowed hx hb hts hown hK hP hD hS lk_232 d_Sm_start_69 (fun H locs hP hD hS => ?_)
          refine lv_aload_n hx hb d_Sm_start_72 rfl (lv_at hl 1 rfl) ?_
          refine lv_iconst (v := 1) hx hb d_Sm_start_73 (by decide) ?_
          refine wr_Sm_ready hx hb hts hown hK hP hD hS lk_231 (Or.inr rfl) d_Sm_start_74 (fun H locs hP hD hS => ?_)
          refine lv_iconst (v := 0) hx hb d_Sm_start_77 (by decide) ?_
          cases h
          subst hQ
          exact k_iret hx hb hr hlk hP hK hD hS d_Sm_start_78
        · rw [if_neg c3] at h
          refine lv_bipush (v := 12) hx hb d_Sm_start_63 (by decide) ?_
          cases h
          subst hQ
          exact k_iret hx hb hr hlk hP hK hD hS d_Sm_start_65
      · rw [if_neg c1] at h
        refine lv_aload_n hx hb d_Sm_start_26 rfl (lv_at hl 0 rfl) ?_
        refine lv_iload_n hx hb d_Sm_start_27 rfl (lv_at hl 2 rfl) ?_
        obtain ⟨q4, hq4, h⟩ := Option.bind_eq_some_iff.mp h
        refine k_I (k_runV ⟨hx, hb, hml, hown, hts⟩ (c_Sm_firstFault rfl hq4) ok_Sm_firstFault is_Sm_firstFault lk_320 rfl rfl ⟨by decide, by decide⟩ hP hK hD hS hA hz (ci := 0) (q0 := 0) rfl rfl ob_Sm rfl hl.1 rfl (Nat.le_of_ble_eq_true rfl) d_Sm_start_28 ⟨Nat.zero_le _, Nat.zero_le _⟩) hD hS hA (fun H locs hP hD hS => ?_)
        refine lv_istore_n (lv' := [(3, .int q4.1), (0, .ref (ad 0)), (1, .int x1), (2, .int x2)]) hx hb d_Sm_start_31 rfl hl (by decide) rfl (fun ls hl => ?_)
        refine lv_iload_n hx hb d_Sm_start_32 rfl (lv_at hl 0 rfl) ?_
        refine lv_if_eq (tgt := 38) hx hb d_Sm_start_33 (by decide) (fun c5 => ?_) (fun c5 => ?_)
        · rw [if_pos c5] at h
          refine lv_iinc (v := (x2 + 1)) (lv' := [(2, .int (x2 + 1)), (3, .int q4.1), (0, .ref (ad 0)), (1, .int x1)]) hx hb d_Sm_start_38 hl (k := 3) rfl rfl (by decide) rfl (fun ls hl => ?_)
          refine lv_goto (tgt := 21) hx hb d_Sm_start_41 (by decide) ?_
          exact ih21 _ _ _ _ _ _ _ _ _ _ _ _ h hP hD hS (lv_sub hl [2, 3, 0] rfl)
        · rw [if_neg c5] at h
          refine lv_iload_n hx hb d_Sm_start_36 rfl (lv_at hl 0 rfl) ?_
          cases h
          subst hQ
          exact k_iret hx hb hr hlk hP hK hD hS d_Sm_start_37
  unfold r_Sm_start at h
  refine lv_aload_n hx hb d_Sm_start_0 rfl (lv_at hl 0 rfl) ?_
  obtain ⟨q6, hq6, h⟩ := Option.bind_eq_some_iff.mp h
  refine k_V (k_runV ⟨hx, hb, hml, hown, hts⟩ (c_Sm_halt rfl hq6) ok_Sm_halt is_Sm_halt lk_267 rfl rfl ⟨by decide, by decide⟩ hP hK hD hS hA hz (ci := 0) (q0 := 0) rfl rfl ob_Sm rfl hl.1 rfl (Nat.le_of_ble_eq_true rfl) d_Sm_start_1 ⟨Nat.zero_le _, Nat.zero_le _⟩) hD hS hA (fun H locs hP hD hS => ?_)
  refine lv_aload_n hx hb d_Sm_start_4 rfl (lv_at hl 0 rfl) ?_
  refine rd_Sm_code hx hb hts hown hK hP lk_223 d_Sm_start_5 ?_
  obtain ⟨q7, hq7, h⟩ := Option.bind_eq_some_iff.mp h
  refine k_I (k_runVN ⟨hx, hb, hml, hown, hts⟩ (c_Co_unitCount rfl hq7) ok_Co_unitCount is_Co_unitCount lk_316 rfl rfl ⟨by decide, by decide⟩ hP hK hD hS hA hz (ci := 1) (q0 := 1) rfl rfl ob_Co rfl hl.1 rfl (Nat.le_of_ble_eq_true rfl) d_Sm_start_8 ⟨Nat.zero_le _, Nat.zero_le _⟩) hD hS hA (fun H locs hP hD hS => ?_)
  refine lv_istore_n (lv' := [(1, .int q7), (0, .ref (ad 0))]) hx hb d_Sm_start_11 rfl hl (by decide) rfl (fun ls hl => ?_)
  refine lv_iload_n hx hb d_Sm_start_12 rfl (lv_at hl 0 rfl) ?_
  refine lv_if_ne (tgt := 19) hx hb d_Sm_start_13 (by decide) (fun c8 => ?_) (fun c8 => ?_)
  · rw [if_neg c8] at h
    refine lv_iconst (v := 0) hx hb d_Sm_start_19 (by decide) ?_
    refine lv_istore_n (lv' := [(2, .int (0 : Int32)), (1, .int q7), (0, .ref (ad 0))]) hx hb d_Sm_start_20 rfl hl (by decide) rfl (fun ls hl => ?_)
    exact L21 n _ _ _ _ _ _ _ _ _ _ _ _ h hP hD hS (lv_sub hl [2, 1, 0] rfl)
  · rw [if_pos c8] at h
    refine lv_bipush (v := 13) hx hb d_Sm_start_16 (by decide) ?_
    cases h
    subst hQ
    exact k_iret hx hb hr hlk hP hK hD hS d_Sm_start_18
theorem d_Sm_add_0 : decode b_Sm_add 0 = .ok (.aload_n 0, 1) := by decide +kernel
theorem d_Sm_add_1 : decode b_Sm_add 1 = .ok (.getfield 10, 3) := by decide +kernel
theorem d_Sm_add_4 : decode b_Sm_add 4 = .ok (.invokevirtual 80, 3) := by decide +kernel
theorem d_Sm_add_7 : decode b_Sm_add 7 = .ok (.ifCond .ne 5, 3) := by decide +kernel
theorem d_Sm_add_10 : decode b_Sm_add 10 = .ok (.iconst (-1), 1) := by decide +kernel
theorem d_Sm_add_11 : decode b_Sm_add 11 = .ok (.ireturn, 1) := by decide +kernel
theorem d_Sm_add_12 : decode b_Sm_add 12 = .ok (.aload_n 0, 1) := by decide +kernel
theorem d_Sm_add_13 : decode b_Sm_add 13 = .ok (.invokevirtual 66, 3) := by decide +kernel
theorem d_Sm_add_16 : decode b_Sm_add 16 = .ok (.aload_n 0, 1) := by decide +kernel
theorem d_Sm_add_17 : decode b_Sm_add 17 = .ok (.getfield 10, 3) := by decide +kernel
theorem d_Sm_add_20 : decode b_Sm_add 20 = .ok (.iload_n 1, 1) := by decide +kernel
theorem d_Sm_add_21 : decode b_Sm_add 21 = .ok (.iload_n 2, 1) := by decide +kernel
theorem d_Sm_add_22 : decode b_Sm_add 22 = .ok (.iload_n 3, 1) := by decide +kernel
theorem d_Sm_add_23 : decode b_Sm_add 23 = .ok (.iload 4, 2) := by decide +kernel
theorem d_Sm_add_25 : decode b_Sm_add 25 = .ok (.invokevirtual 83, 3) := by decide +kernel
theorem d_Sm_add_28 : decode b_Sm_add 28 = .ok (.ireturn, 1) := by decide +kernel
def r_Sm_add (n : Nat) (ma : T_ma) (ko : T_ko) (me : T_me) (ru : T_ru) (a0 : Int32) (a1 : Int32) (a2 : Int32) (a3 : Int32) : Option (Int32 × T_ma × T_ko × T_me × T_ru) := (r_Co_hasRoomForInstruction n ko).bind (fun q1 => if q1 = 0 then some ((-1 : Int32), ma, ko, me, ru) else (r_Sm_halt n ma me ru).bind (fun q3 => (r_Co_appendInstruction n ko a0 a1 a2 a3).bind (fun q4 => some (q4.1, q3.1, q4.2, q3.2.1, q3.2.2))))
def rm_Sm_add : Jvm.Room := { frames := 3, cells := 0, slots := 0, locals := 63 }
set_option maxHeartbeats 4000000 in
set_option maxRecDepth 100000 in
theorem c_Sm_add {l : Launch} {D : va_G} {cI cL : ClassId} {ad : Nat → Nat} {ma : T_ma} {ko : T_ko} {sh : T_sh} {lo : T_lo} {de : T_de} {wa : T_wa} {me : T_me} {ru : T_ru} {ws0 : va_W} {sz n : Nat} {a0 : Int32} {a1 : Int32} {a2 : Int32} {a3 : Int32} {r9 : Int32} {ma9 : T_ma} {ko9 : T_ko} {me9 : T_me} {ru9 : T_ru} (hw : ws0 = (wX cI cL ad ma ko sh lo de wa me ru)) (h : r_Sm_add n ma ko me ru a0 a1 a2 a3 = some (r9, ma9, ko9, me9, ru9)) : Met l y_Sm_add (Cond.code y_Sm_add b_Sm_add 5 (some .int) :: TB) rm_Sm_add (PreW D clX (tyX cI cL) ws0 [.ref (ad 0), .int a0, .int a1, .int a2, .int a3] sz) (PstI D clX (tyX cI cL) ws0 (wX cI cL ad (ma9) (ko9) sh lo de wa (me9) (ru9)) sz r9) 0 0 (va_A ws0 sz) := by
  refine k_met (by decide) (Nat.le_of_ble_eq_true rfl) ?_
  intro p e s m below meth c ls hx hb hr hml hts hown hlk hnm hsz hP hK hD hA hz hl
  have hP : va_P D clX (wX cI cL ad ma ko sh lo de wa me ru) s.heap := by rw [← hw]; exact hP
  have hD : va_D (va_A ws0 sz) (wX cI cL ad ma ko sh lo de wa me ru) := by rw [← hw]; exact hD
  have hS : va_S (va_A ws0 sz) s.heap s.heap [] := va_S.rf
  have hl : lv_has ls 5 [(0, .ref (ad 0)), (1, .int a0), (2, .int a1), (3, .int a2), (4, .int a3)] := hl
  generalize hQ : MQ below (PstI D clX (tyX cI cL) ws0 (wX cI cL ad (ma9) (ko9) sh lo de wa (me9) (ru9)) sz r9) [.ref (ad 0), .int a0, .int a1, .int a2, .int a3].toArray s 0 0 (va_A ws0 sz) = Q
  unfold r_Sm_add at h
  refine lv_aload_n hx hb d_Sm_add_0 rfl (lv_at hl 0 rfl) ?_
  refine rd_Sm_code hx hb hts hown hK hP lk_223 d_Sm_add_1 ?_
  obtain ⟨q1, hq1, h⟩ := Option.bind_eq_some_iff.mp h
  refine k_I (k_runVN ⟨hx, hb, hml, hown, hts⟩ (c_Co_hasRoomForInstruction rfl hq1) ok_Co_hasRoomForInstruction is_Co_hasRoomForInstruction lk_303 rfl rfl ⟨by decide, by decide⟩ hP hK hD hS hA hz (ci := 1) (q0 := 1) rfl rfl ob_Co rfl hl.1 rfl (Nat.le_of_ble_eq_true rfl) d_Sm_add_4 ⟨Nat.zero_le _, Nat.zero_le _⟩) hD hS hA (fun H locs hP hD hS => ?_)
  refine lv_if_ne (tgt := 12) hx hb d_Sm_add_7 (by decide) (fun c2 => ?_) (fun c2 => ?_)
  · rw [if_neg c2] at h
    refine lv_aload_n hx hb d_Sm_add_12 rfl (lv_at hl 0 rfl) ?_
    obtain ⟨q3, hq3, h⟩ := Option.bind_eq_some_iff.mp h
    refine k_V (k_runV ⟨hx, hb, hml, hown, hts⟩ (c_Sm_halt rfl hq3) ok_Sm_halt is_Sm_halt lk_267 rfl rfl ⟨by decide, by decide⟩ hP hK hD hS hA hz (ci := 0) (q0 := 0) rfl rfl ob_Sm rfl hl.1 rfl (Nat.le_of_ble_eq_true rfl) d_Sm_add_13 ⟨Nat.zero_le _, Nat.zero_le _⟩) hD hS hA (fun H locs hP hD hS => ?_)
    refine lv_aload_n hx hb d_Sm_add_16 rfl (lv_at hl 0 rfl) ?_
    refine rd_Sm_code hx hb hts hown hK hP lk_223 d_Sm_add_17 ?_
    refine lv_iload_n hx hb d_Sm_add_20 rfl (lv_at hl 1 rfl) ?_
    refine lv_iload_n hx hb d_Sm_add_21 rfl (lv_at hl 2 rfl) ?_
    refine lv_iload_n hx hb d_Sm_add_22 rfl (lv_at hl 3 rfl) ?_
    refine lv_iload hx hb d_Sm_add_23 (lv_at hl 4 rfl) ?_
    obtain ⟨q4, hq4, h⟩ := Option.bind_eq_some_iff.mp h
    refine k_I (k_runVN ⟨hx, hb, hml, hown, hts⟩ (c_Co_appendInstruction rfl hq4) ok_Co_appendInstruction is_Co_appendInstruction lk_307 rfl rfl ⟨by decide, by decide⟩ hP hK hD hS hA hz (ci := 1) (q0 := 1) rfl rfl ob_Co rfl hl.1 rfl (Nat.le_of_ble_eq_true rfl) d_Sm_add_25 ⟨Nat.zero_le _, Nat.zero_le _⟩) hD hS hA (fun H locs hP hD hS => ?_)
    cases h
    subst hQ
    exact k_iret hx hb hr hlk hP hK hD hS d_Sm_add_28
  · rw [if_pos c2] at h
    refine lv_iconst (v := -1) hx hb d_Sm_add_10 (by decide) ?_
    cases h
    subst hQ
    exact k_iret hx hb hr hlk hP hK hD hS d_Sm_add_11
theorem d_Sm_unit_0 : decode b_Sm_unit 0 = .ok (.iload_n 1, 1) := by decide +kernel
theorem d_Sm_unit_1 : decode b_Sm_unit 1 = .ok (.ifCond .lt 22, 3) := by decide +kernel
theorem d_Sm_unit_4 : decode b_Sm_unit 4 = .ok (.iload_n 1, 1) := by decide +kernel
theorem d_Sm_unit_5 : decode b_Sm_unit 5 = .ok (.sipush 4096, 3) := by decide +kernel
theorem d_Sm_unit_8 : decode b_Sm_unit 8 = .ok (.if_icmp .gt 15, 3) := by decide +kernel
theorem d_Sm_unit_11 : decode b_Sm_unit 11 = .ok (.iload_n 2, 1) := by decide +kernel
theorem d_Sm_unit_12 : decode b_Sm_unit 12 = .ok (.iconst (-1), 1) := by decide +kernel
theorem d_Sm_unit_13 : decode b_Sm_unit 13 = .ok (.if_icmp .lt 10, 3) := by decide +kernel
theorem d_Sm_unit_16 : decode b_Sm_unit 16 = .ok (.iload_n 2, 1) := by decide +kernel
theorem d_Sm_unit_17 : decode b_Sm_unit 17 = .ok (.sipush 4096, 3) := by decide +kernel
theorem d_Sm_unit_20 : decode b_Sm_unit 20 = .ok (.if_icmp .lt 7, 3) := by decide +kernel
theorem d_Sm_unit_23 : decode b_Sm_unit 23 = .ok (.iconst 1, 1) := by decide +kernel
theorem d_Sm_unit_24 : decode b_Sm_unit 24 = .ok (.goto 4, 3) := by decide +kernel
theorem d_Sm_unit_27 : decode b_Sm_unit 27 = .ok (.iconst 0, 1) := by decide +kernel
theorem d_Sm_unit_28 : decode b_Sm_unit 28 = .ok (.istore_n 3, 1) := by decide +kernel
theorem d_Sm_unit_29 : decode b_Sm_unit 29 = .ok (.iload_n 3, 1) := by decide +kernel
theorem d_Sm_unit_30 : decode b_Sm_unit 30 = .ok (.ifCond .ne 13, 3) := by decide +kernel
theorem d_Sm_unit_33 : decode b_Sm_unit 33 = .ok (.aload_n 0, 1) := by decide +kernel
theorem d_Sm_unit_34 : decode b_Sm_unit 34 = .ok (.getfield 10, 3) := by decide +kernel
theorem d_Sm_unit_37 : decode b_Sm_unit 37 = .ok (.invokevirtual 72, 3) := by decide +kernel
theorem d_Sm_unit_40 : decode b_Sm_unit 40 = .ok (.ifCond .ne 5, 3) := by decide +kernel
theorem d_Sm_unit_43 : decode b_Sm_unit 43 = .ok (.iconst (-1), 1) := by decide +kernel
theorem d_Sm_unit_44 : decode b_Sm_unit 44 = .ok (.ireturn, 1) := by decide +kernel
theorem d_Sm_unit_45 : decode b_Sm_unit 45 = .ok (.aload_n 0, 1) := by decide +kernel
theorem d_Sm_unit_46 : decode b_Sm_unit 46 = .ok (.invokevirtual 66, 3) := by decide +kernel
theorem d_Sm_unit_49 : decode b_Sm_unit 49 = .ok (.aload_n 0, 1) := by decide +kernel
theorem d_Sm_unit_50 : decode b_Sm_unit 50 = .ok (.getfield 10, 3) := by decide +kernel
theorem d_Sm_unit_53 : decode b_Sm_unit 53 = .ok (.iload_n 1, 1) := by decide +kernel
theorem d_Sm_unit_54 : decode b_Sm_unit 54 = .ok (.iload_n 2, 1) := by decide +kernel
theorem d_Sm_unit_55 : decode b_Sm_unit 55 = .ok (.invokevirtual 76, 3) := by decide +kernel
theorem d_Sm_unit_58 : decode b_Sm_unit 58 = .ok (.ireturn, 1) := by decide +kernel
def r_Sm_unit_j28 (n : Nat)   (ma : T_ma) (ko : T_ko) (me : T_me) (ru : T_ru) (x1 : Int32) (x2 : Int32) (y0 : Int32) : Option (Int32 × T_ma × T_ko × T_me × T_ru) := if y0 = 0 then (r_Co_hasRoomForUnit n ko).bind (fun q2 => if q2 = 0 then some ((-1 : Int32), ma, ko, me, ru) else (r_Sm_halt n ma me ru).bind (fun q4 => (r_Co_appendUnit n ko x1 x2).bind (fun q5 => some (q5.1, q4.1, q5.2, q4.2.1, q4.2.2)))) else some ((-1 : Int32), ma, ko, me, ru)
def r_Sm_unit_j23 (n : Nat)   (ma : T_ma) (ko : T_ko) (me : T_me) (ru : T_ru) (x1 : Int32) (x2 : Int32) : Option (Int32 × T_ma × T_ko × T_me × T_ru) := r_Sm_unit_j28 n ma ko me ru x1 x2 (1 : Int32)
def r_Sm_unit (n : Nat) (ma : T_ma) (ko : T_ko) (me : T_me) (ru : T_ru) (a0 : Int32) (a1 : Int32) : Option (Int32 × T_ma × T_ko × T_me × T_ru) := if a0 < 0 then r_Sm_unit_j23 n ma ko me ru a0 a1 else if (4096 : Int32) < a0 then r_Sm_unit_j23 n ma ko me ru a0 a1 else if a1 < (-1 : Int32) then r_Sm_unit_j23 n ma ko me ru a0 a1 else if a1 < (4096 : Int32) then r_Sm_unit_j28 n ma ko me ru a0 a1 (0 : Int32) else r_Sm_unit_j23 n ma ko me ru a0 a1
def rm_Sm_unit : Jvm.Room := { frames := 3, cells := 0, slots := 0, locals := 63 }
set_option maxHeartbeats 4000000 in
set_option maxRecDepth 100000 in
theorem c_Sm_unit {l : Launch} {D : va_G} {cI cL : ClassId} {ad : Nat → Nat} {ma : T_ma} {ko : T_ko} {sh : T_sh} {lo : T_lo} {de : T_de} {wa : T_wa} {me : T_me} {ru : T_ru} {ws0 : va_W} {sz n : Nat} {a0 : Int32} {a1 : Int32} {r9 : Int32} {ma9 : T_ma} {ko9 : T_ko} {me9 : T_me} {ru9 : T_ru} (hw : ws0 = (wX cI cL ad ma ko sh lo de wa me ru)) (h : r_Sm_unit n ma ko me ru a0 a1 = some (r9, ma9, ko9, me9, ru9)) : Met l y_Sm_unit (Cond.code y_Sm_unit b_Sm_unit 4 (some .int) :: TB) rm_Sm_unit (PreW D clX (tyX cI cL) ws0 [.ref (ad 0), .int a0, .int a1] sz) (PstI D clX (tyX cI cL) ws0 (wX cI cL ad (ma9) (ko9) sh lo de wa (me9) (ru9)) sz r9) 0 0 (va_A ws0 sz) := by
  refine k_met (by decide) (Nat.le_of_ble_eq_true rfl) ?_
  intro p e s m below meth c ls hx hb hr hml hts hown hlk hnm hsz hP hK hD hA hz hl
  have hP : va_P D clX (wX cI cL ad ma ko sh lo de wa me ru) s.heap := by rw [← hw]; exact hP
  have hD : va_D (va_A ws0 sz) (wX cI cL ad ma ko sh lo de wa me ru) := by rw [← hw]; exact hD
  have hS : va_S (va_A ws0 sz) s.heap s.heap [] := va_S.rf
  have hl : lv_has ls 4 [(0, .ref (ad 0)), (1, .int a0), (2, .int a1)] := hl
  generalize hQ : MQ below (PstI D clX (tyX cI cL) ws0 (wX cI cL ad (ma9) (ko9) sh lo de wa (me9) (ru9)) sz r9) [.ref (ad 0), .int a0, .int a1].toArray s 0 0 (va_A ws0 sz) = Q
  have J28 : ∀ (ma : T_ma) (ko : T_ko) (me : T_me) (ru : T_ru) (x1 : Int32) (x2 : Int32) (y0 : Int32) (H : Heap) (locs : List Loc) (ls : Array Slot), r_Sm_unit_j28 n ma ko me ru x1 x2 y0 = some (r9, ma9, ko9, me9, ru9) → va_P D clX (wX cI cL ad ma ko sh lo de wa me ru) H → va_D (va_A ws0 sz) (wX cI cL ad ma ko sh lo de wa me ru) → va_S (va_A ws0 sz) s.heap H locs → lv_has ls 4 [(0, .ref (ad 0)), (1, .int x1), (2, .int x2)] → W p l e rm_Sm_unit s m [.ref (ad 0), .int a0, .int a1].toArray below meth c H locs 0 0 Q (F0 m 28 ls [.int y0]) := by
    intro ma ko me ru x1 x2 y0 H locs ls h hP hD hS hl
    unfold r_Sm_unit_j28 at h
    refine lv_istore_n (lv' := [(3, .int y0), (0, .ref (ad 0)), (1, .int x1), (2, .int x2)]) hx hb d_Sm_unit_28 rfl hl (by decide) rfl (fun ls hl => ?_)
    refine lv_iload_n hx hb d_Sm_unit_29 rfl (lv_at hl 0 rfl) ?_
    refine lv_if_ne (tgt := 43) hx hb d_Sm_unit_30 (by decide) (fun c1 => ?_) (fun c1 => ?_)
    · rw [if_neg c1] at h
      refine lv_iconst (v := -1) hx hb d_Sm_unit_43 (by decide) ?_
      cases h
      subst hQ
      exact k_iret hx hb hr hlk hP hK hD hS d_Sm_unit_44
    · rw [if_pos c1] at h
      refine lv_aload_n hx hb d_Sm_unit_33 rfl (lv_at hl 1 rfl) ?_
      refine rd_Sm_code hx hb hts hown hK hP lk_223 d_Sm_unit_34 ?_
      obtain ⟨q2, hq2, h⟩ := Option.bind_eq_some_iff.mp h
      refine k_I (k_runVN ⟨hx, hb, hml, hown, hts⟩ (c_Co_hasRoomForUnit rfl hq2) ok_Co_hasRoomForUnit is_Co_hasRoomForUnit lk_290 rfl rfl ⟨by decide, by decide⟩ hP hK hD hS hA hz (ci := 1) (q0 := 1) rfl rfl ob_Co rfl hl.1 rfl (Nat.le_of_ble_eq_true rfl) d_Sm_unit_37 ⟨Nat.zero_le _, Nat.zero_le _⟩) hD hS hA (fun H locs hP hD hS => ?_)
      refine lv_if_ne (tgt := 45) hx hb d_Sm_unit_40 (by decide) (fun c3 => ?_) (fun c3 => ?_)
      · rw [if_neg c3] at h
        refine lv_aload_n hx hb d_Sm_unit_45 rfl (lv_at hl 1 rfl) ?_
        obtain ⟨q4, hq4, h⟩ := Option.bind_eq_some_iff.mp h
        refine k_V (k_runV ⟨hx, hb, hml, hown, hts⟩ (c_Sm_halt rfl hq4) ok_Sm_halt is_Sm_halt lk_267 rfl rfl ⟨by decide, by decide⟩ hP hK hD hS hA hz (ci := 0) (q0 := 0) rfl rfl ob_Sm rfl hl.1 rfl (Nat.le_of_ble_eq_true rfl) d_Sm_unit_46 ⟨Nat.zero_le _, Nat.zero_le _⟩) hD hS hA (fun H locs hP hD hS => ?_)
        refine lv_aload_n hx hb d_Sm_unit_49 rfl (lv_at hl 1 rfl) ?_
        refine rd_Sm_code hx hb hts hown hK hP lk_223 d_Sm_unit_50 ?_
        refine lv_iload_n hx hb d_Sm_unit_53 rfl (lv_at hl 2 rfl) ?_
        refine lv_iload_n hx hb d_Sm_unit_54 rfl (lv_at hl 3 rfl) ?_
        obtain ⟨q5, hq5, h⟩ := Option.bind_eq_some_iff.mp h
        refine k_I (k_runVN ⟨hx, hb, hml, hown, hts⟩ (c_Co_appendUnit rfl hq5) ok_Co_appendUnit is_Co_appendUnit lk_294 rfl rfl ⟨by decide, by decide⟩ hP hK hD hS hA hz (ci := 1) (q0 := 1) rfl rfl ob_Co rfl hl.1 rfl (Nat.le_of_ble_eq_true rfl) d_Sm_unit_55 ⟨Nat.zero_le _, Nat.zero_le _⟩) hD hS hA (fun H locs hP hD hS => ?_)
        cases h
        subst hQ
        exact k_iret hx hb hr hlk hP hK hD hS d_Sm_unit_58
      · rw [if_pos c3] at h
        refine lv_iconst (v := -1) hx hb d_Sm_unit_43 (by decide) ?_
        cases h
        subst hQ
        exact k_iret hx hb hr hlk hP hK hD hS d_Sm_unit_44
  have J23 : ∀ (ma : T_ma) (ko : T_ko) (me : T_me) (ru : T_ru) (x1 : Int32) (x2 : Int32) (H : Heap) (locs : List Loc) (ls : Array Slot), r_Sm_unit_j23 n ma ko me ru x1 x2 = some (r9, ma9, ko9, me9, ru9) → va_P D clX (wX cI cL ad ma ko sh lo de wa me ru) H → va_D (va_A ws0 sz) (wX cI cL ad ma ko sh lo de wa me ru) → va_S (va_A ws0 sz) s.heap H locs → lv_has ls 4 [(0, .ref (ad 0)), (1, .int x1), (2, .int x2)] → W p l e rm_Sm_unit s m [.ref (ad 0), .int a0, .int a1].toArray below meth c H locs 0 0 Q (F0 m 23 ls []) := by
    intro ma ko me ru x1 x2 H locs ls h hP hD hS hl
    unfold r_Sm_unit_j23 at h
    refine lv_iconst (v := 1) hx hb d_Sm_unit_23 (by decide) ?_
    refine lv_goto (tgt := 28) hx hb d_Sm_unit_24 (by decide) ?_
    exact J28 _ _ _ _ _ _ _ _ _ _ h hP hD hS (lv_sub hl [0, 1, 2] rfl)
  unfold r_Sm_unit at h
  refine lv_iload_n hx hb d_Sm_unit_0 rfl (lv_at hl 1 rfl) ?_
  refine lv_if_lt (tgt := 23) hx hb d_Sm_unit_1 (by decide) (fun c6 => ?_) (fun c6 => ?_)
  · rw [if_pos c6] at h
    exact J23 _ _ _ _ _ _ _ _ _ h hP hD hS (lv_sub hl [0, 1, 2] rfl)
  · rw [if_neg c6] at h
    refine lv_iload_n hx hb d_Sm_unit_4 rfl (lv_at hl 1 rfl) ?_
    refine lv_sipush (v := 4096) hx hb d_Sm_unit_5 (by decide) ?_
    refine lv_icmp_gt (tgt := 23) hx hb d_Sm_unit_8 (by decide) (fun c7 => ?_) (fun c7 => ?_)
    · rw [if_pos c7] at h
      exact J23 _ _ _ _ _ _ _ _ _ h hP hD hS (lv_sub hl [0, 1, 2] rfl)
    · rw [if_neg c7] at h
      refine lv_iload_n hx hb d_Sm_unit_11 rfl (lv_at hl 2 rfl) ?_
      refine lv_iconst (v := -1) hx hb d_Sm_unit_12 (by decide) ?_
      refine lv_icmp_lt (tgt := 23) hx hb d_Sm_unit_13 (by decide) (fun c8 => ?_) (fun c8 => ?_)
      · rw [if_pos c8] at h
        exact J23 _ _ _ _ _ _ _ _ _ h hP hD hS (lv_sub hl [0, 1, 2] rfl)
      · rw [if_neg c8] at h
        refine lv_iload_n hx hb d_Sm_unit_16 rfl (lv_at hl 2 rfl) ?_
        refine lv_sipush (v := 4096) hx hb d_Sm_unit_17 (by decide) ?_
        refine lv_icmp_lt (tgt := 27) hx hb d_Sm_unit_20 (by decide) (fun c9 => ?_) (fun c9 => ?_)
        · rw [if_pos c9] at h
          refine lv_iconst (v := 0) hx hb d_Sm_unit_27 (by decide) ?_
          exact J28 _ _ _ _ _ _ _ _ _ _ h hP hD hS (lv_sub hl [0, 1, 2] rfl)
        · rw [if_neg c9] at h
          exact J23 _ _ _ _ _ _ _ _ _ h hP hD hS (lv_sub hl [0, 1, 2] rfl)
theorem d_Sm_begin_0 : decode b_Sm_begin 0 = .ok (.iload_n 1, 1) := by decide +kernel
theorem d_Sm_begin_1 : decode b_Sm_begin 1 = .ok (.iconst 1, 1) := by decide +kernel
theorem d_Sm_begin_2 : decode b_Sm_begin 2 = .ok (.if_icmp .lt 10, 3) := by decide +kernel
theorem d_Sm_begin_5 : decode b_Sm_begin 5 = .ok (.iload_n 1, 1) := by decide +kernel
theorem d_Sm_begin_6 : decode b_Sm_begin 6 = .ok (.sipush 4096, 3) := by decide +kernel
theorem d_Sm_begin_9 : decode b_Sm_begin 9 = .ok (.if_icmp .le 5, 3) := by decide +kernel
theorem d_Sm_begin_12 : decode b_Sm_begin 12 = .ok (.iconst (-1), 1) := by decide +kernel
theorem d_Sm_begin_13 : decode b_Sm_begin 13 = .ok (.ireturn, 1) := by decide +kernel
theorem d_Sm_begin_14 : decode b_Sm_begin 14 = .ok (.aload_n 0, 1) := by decide +kernel
theorem d_Sm_begin_15 : decode b_Sm_begin 15 = .ok (.invokevirtual 66, 3) := by decide +kernel
theorem d_Sm_begin_18 : decode b_Sm_begin 18 = .ok (.aload_n 0, 1) := by decide +kernel
theorem d_Sm_begin_19 : decode b_Sm_begin 19 = .ok (.getfield 10, 3) := by decide +kernel
theorem d_Sm_begin_22 : decode b_Sm_begin 22 = .ok (.invokevirtual 69, 3) := by decide +kernel
theorem d_Sm_begin_25 : decode b_Sm_begin 25 = .ok (.aload_n 0, 1) := by decide +kernel
theorem d_Sm_begin_26 : decode b_Sm_begin 26 = .ok (.iload_n 1, 1) := by decide +kernel
theorem d_Sm_begin_27 : decode b_Sm_begin 27 = .ok (.putfield 62, 3) := by decide +kernel
theorem d_Sm_begin_30 : decode b_Sm_begin 30 = .ok (.iload_n 1, 1) := by decide +kernel
theorem d_Sm_begin_31 : decode b_Sm_begin 31 = .ok (.ireturn, 1) := by decide +kernel
def r_Sm_begin (n : Nat) (ma : T_ma) (ko : T_ko) (me : T_me) (ru : T_ru) (a0 : Int32) : Option (Int32 × T_ma × T_ko × T_me × T_ru) := if a0 < (1 : Int32) then some ((-1 : Int32), ma, ko, me, ru) else if a0 ≤ (4096 : Int32) then (r_Sm_halt n ma me ru).bind (fun q3 => (r_Co_forget n ko).bind (fun q4 => some (a0, (ma_total_s q3.1 a0), q4, q3.2.1, q3.2.2))) else some ((-1 : Int32), ma, ko, me, ru)
def rm_Sm_begin : Jvm.Room := { frames := 3, cells := 0, slots := 0, locals := 63 }
set_option maxHeartbeats 4000000 in
set_option maxRecDepth 100000 in
theorem c_Sm_begin {l : Launch} {D : va_G} {cI cL : ClassId} {ad : Nat → Nat} {ma : T_ma} {ko : T_ko} {sh : T_sh} {lo : T_lo} {de : T_de} {wa : T_wa} {me : T_me} {ru : T_ru} {ws0 : va_W} {sz n : Nat} {a0 : Int32} {r9 : Int32} {ma9 : T_ma} {ko9 : T_ko} {me9 : T_me} {ru9 : T_ru} (hw : ws0 = (wX cI cL ad ma ko sh lo de wa me ru)) (h : r_Sm_begin n ma ko me ru a0 = some (r9, ma9, ko9, me9, ru9)) : Met l y_Sm_begin (Cond.code y_Sm_begin b_Sm_begin 2 (some .int) :: TB) rm_Sm_begin (PreW D clX (tyX cI cL) ws0 [.ref (ad 0), .int a0] sz) (PstI D clX (tyX cI cL) ws0 (wX cI cL ad (ma9) (ko9) sh lo de wa (me9) (ru9)) sz r9) 0 0 (va_A ws0 sz) := by
  refine k_met (by decide) (Nat.le_of_ble_eq_true rfl) ?_
  intro p e s m below meth c ls hx hb hr hml hts hown hlk hnm hsz hP hK hD hA hz hl
  have hP : va_P D clX (wX cI cL ad ma ko sh lo de wa me ru) s.heap := by rw [← hw]; exact hP
  have hD : va_D (va_A ws0 sz) (wX cI cL ad ma ko sh lo de wa me ru) := by rw [← hw]; exact hD
  have hS : va_S (va_A ws0 sz) s.heap s.heap [] := va_S.rf
  have hl : lv_has ls 2 [(0, .ref (ad 0)), (1, .int a0)] := hl
  generalize hQ : MQ below (PstI D clX (tyX cI cL) ws0 (wX cI cL ad (ma9) (ko9) sh lo de wa (me9) (ru9)) sz r9) [.ref (ad 0), .int a0].toArray s 0 0 (va_A ws0 sz) = Q
  unfold r_Sm_begin at h
  refine lv_iload_n hx hb d_Sm_begin_0 rfl (lv_at hl 1 rfl) ?_
  refine lv_iconst (v := 1) hx hb d_Sm_begin_1 (by decide) ?_
  refine lv_icmp_lt (tgt := 12) hx hb d_Sm_begin_2 (by decide) (fun c1 => ?_) (fun c1 => ?_)
  · rw [if_pos c1] at h
    refine lv_iconst (v := -1) hx hb d_Sm_begin_12 (by decide) ?_
    cases h
    subst hQ
    exact k_iret hx hb hr hlk hP hK hD hS d_Sm_begin_13
  · rw [if_neg c1] at h
    refine lv_iload_n hx hb d_Sm_begin_5 rfl (lv_at hl 1 rfl) ?_
    refine lv_sipush (v := 4096) hx hb d_Sm_begin_6 (by decide) ?_
    refine lv_icmp_le (tgt := 14) hx hb d_Sm_begin_9 (by decide) (fun c2 => ?_) (fun c2 => ?_)
    · rw [if_pos c2] at h
      refine lv_aload_n hx hb d_Sm_begin_14 rfl (lv_at hl 0 rfl) ?_
      obtain ⟨q3, hq3, h⟩ := Option.bind_eq_some_iff.mp h
      refine k_V (k_runV ⟨hx, hb, hml, hown, hts⟩ (c_Sm_halt rfl hq3) ok_Sm_halt is_Sm_halt lk_267 rfl rfl ⟨by decide, by decide⟩ hP hK hD hS hA hz (ci := 0) (q0 := 0) rfl rfl ob_Sm rfl hl.1 rfl (Nat.le_of_ble_eq_true rfl) d_Sm_begin_15 ⟨Nat.zero_le _, Nat.zero_le _⟩) hD hS hA (fun H locs hP hD hS => ?_)
      refine lv_aload_n hx hb d_Sm_begin_18 rfl (lv_at hl 0 rfl) ?_
      refine rd_Sm_code hx hb hts hown hK hP lk_223 d_Sm_begin_19 ?_
      obtain ⟨q4, hq4, h⟩ := Option.bind_eq_some_iff.mp h
      refine k_V (k_runVN ⟨hx, hb, hml, hown, hts⟩ (c_Co_forget rfl hq4) ok_Co_forget is_Co_forget lk_282 rfl rfl ⟨by decide, by decide⟩ hP hK hD hS hA hz (ci := 1) (q0 := 1) rfl rfl ob_Co rfl hl.1 rfl (Nat.le_of_ble_eq_true rfl) d_Sm_begin_22 ⟨Nat.zero_le _, Nat.zero_le _⟩) hD hS hA (fun H locs hP hD hS => ?_)
      refine lv_aload_n hx hb d_Sm_begin_25 rfl (lv_at hl 0 rfl) ?_
      refine lv_iload_n hx hb d_Sm_begin_26 rfl (lv_at hl 1 rfl) ?_
      refine wr_Sm_total hx hb hts hown hK hP hD hS lk_230 d_Sm_begin_27 (fun H locs hP hD hS => ?_)
      refine lv_iload_n hx hb d_Sm_begin_30 rfl (lv_at hl 1 rfl) ?_
      cases h
      subst hQ
      exact k_iret hx hb hr hlk hP hK hD hS d_Sm_begin_31
    · rw [if_neg c2] at h
      refine lv_iconst (v := -1) hx hb d_Sm_begin_12 (by decide) ?_
      cases h
      subst hQ
      exact k_iret hx hb hr hlk hP hK hD hS d_Sm_begin_13
