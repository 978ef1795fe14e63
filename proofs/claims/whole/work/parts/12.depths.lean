/-! printed by wip/gen/gen3.py: pure functions and contracts of ScanMachine$Depths -/
theorem d_De_agrees_0 : decode b_De_agrees 0 = .ok (.iload_n 1, 1) := by decide +kernel
theorem d_De_agrees_1 : decode b_De_agrees 1 = .ok (.ifCond .lt 12, 3) := by decide +kernel
theorem d_De_agrees_4 : decode b_De_agrees 4 = .ok (.iload_n 1, 1) := by decide +kernel
theorem d_De_agrees_5 : decode b_De_agrees 5 = .ok (.aload_n 0, 1) := by decide +kernel
theorem d_De_agrees_6 : decode b_De_agrees 6 = .ok (.getfield 9, 3) := by decide +kernel
theorem d_De_agrees_9 : decode b_De_agrees 9 = .ok (.arraylength, 1) := by decide +kernel
theorem d_De_agrees_10 : decode b_De_agrees 10 = .ok (.if_icmp .lt 5, 3) := by decide +kernel
theorem d_De_agrees_13 : decode b_De_agrees 13 = .ok (.iconst 0, 1) := by decide +kernel
theorem d_De_agrees_14 : decode b_De_agrees 14 = .ok (.ireturn, 1) := by decide +kernel
theorem d_De_agrees_15 : decode b_De_agrees 15 = .ok (.aload_n 0, 1) := by decide +kernel
theorem d_De_agrees_16 : decode b_De_agrees 16 = .ok (.getfield 9, 3) := by decide +kernel
theorem d_De_agrees_19 : decode b_De_agrees 19 = .ok (.iload_n 1, 1) := by decide +kernel
theorem d_De_agrees_20 : decode b_De_agrees 20 = .ok (.iaload, 1) := by decide +kernel
theorem d_De_agrees_21 : decode b_De_agrees 21 = .ok (.iconst (-1), 1) := by decide +kernel
theorem d_De_agrees_22 : decode b_De_agrees 22 = .ok (.if_icmp .ne 10, 3) := by decide +kernel
theorem d_De_agrees_25 : decode b_De_agrees 25 = .ok (.aload_n 0, 1) := by decide +kernel
theorem d_De_agrees_26 : decode b_De_agrees 26 = .ok (.getfield 9, 3) := by decide +kernel
theorem d_De_agrees_29 : decode b_De_agrees 29 = .ok (.iload_n 1, 1) := by decide +kernel
theorem d_De_agrees_30 : decode b_De_agrees 30 = .ok (.iload_n 2, 1) := by decide +kernel
theorem d_De_agrees_31 : decode b_De_agrees 31 = .ok (.iastore, 1) := by decide +kernel
theorem d_De_agrees_32 : decode b_De_agrees 32 = .ok (.aload_n 0, 1) := by decide +kernel
theorem d_De_agrees_33 : decode b_De_agrees 33 = .ok (.getfield 9, 3) := by decide +kernel
theorem d_De_agrees_36 : decode b_De_agrees 36 = .ok (.iload_n 1, 1) := by decide +kernel
theorem d_De_agrees_37 : decode b_De_agrees 37 = .ok (.iaload, 1) := by decide +kernel
theorem d_De_agrees_38 : decode b_De_agrees 38 = .ok (.iload_n 2, 1) := by decide +kernel
theorem d_De_agrees_39 : decode b_De_agrees 39 = .ok (.if_icmp .ne 7, 3) := by decide +kernel
theorem d_De_agrees_42 : decode b_De_agrees 42 = .ok (.iconst 1, 1) := by decide +kernel
theorem d_De_agrees_43 : decode b_De_agrees 43 = .ok (.goto 4, 3) := by decide +kernel
theorem d_De_agrees_46 : decode b_De_agrees 46 = .ok (.iconst 0, 1) := by decide +kernel
theorem d_De_agrees_47 : decode b_De_agrees 47 = .ok (.ireturn, 1) := by decide +kernel
def r_De_agrees_j32 (n : Nat)   (de : T_de) (x1 : Int32) (x2 : Int32) : Option (Int32 × T_de) := gr (de_depths de) x1 257 (fun v2 => if v2 = x2 then some ((1 : Int32), de) else some ((0 : Int32), de))
def r_De_agrees (n : Nat) (de : T_de) (a0 : Int32) (a1 : Int32) : Option (Int32 × T_de) := if a0 < 0 then some ((0 : Int32), de) else if a0 < (257 : Int32) then gr (de_depths de) a0 257 (fun v7 => if v7 = (-1 : Int32) then ga a0 257 (r_De_agrees_j32 n ((de_depths_s de (upd (de_depths de) a0.toNatClampNeg a1))) a0 a1) else r_De_agrees_j32 n de a0 a1) else some ((0 : Int32), de)
def rm_De_agrees : Jvm.Room := { frames := 0, cells := 0, slots := 0, locals := 0 }
set_option maxHeartbeats 4000000 in
set_option maxRecDepth 100000 in
theorem c_De_agrees {l : Launch} {D : va_G} {cI cL : ClassId} {ad : Nat → Nat} {ma : T_ma} {ko : T_ko} {sh : T_sh} {lo : T_lo} {de : T_de} {wa : T_wa} {me : T_me} {ru : T_ru} {ws0 : va_W} {sz n : Nat} {a0 : Int32} {a1 : Int32} {r9 : Int32} {de9 : T_de} (hw : ws0 = (wX cI cL ad ma ko sh lo de wa me ru)) (h : r_De_agrees n de a0 a1 = some (r9, de9)) : Met l y_De_agrees (Cond.code y_De_agrees b_De_agrees 3 (some .boolean) :: TB) rm_De_agrees (PreW D clX (tyX cI cL) ws0 [.ref (ad 13), .int a0, .int a1] sz) (PstI D clX (tyX cI cL) ws0 (wX cI cL ad ma ko sh lo (de9) wa me ru) sz r9) 0 0 (va_A ws0 sz) := by
  refine k_met (by decide) (Nat.le_of_ble_eq_true rfl) ?_
  intro p e s m below meth c ls hx hb hr hml hts hown hlk hnm hsz hP hK hD hA hz hl
  have hP : va_P D clX (wX cI cL ad ma ko sh lo de wa me ru) s.heap := by rw [← hw]; exact hP
  have hD : va_D (va_A ws0 sz) (wX cI cL ad ma ko sh lo de wa me ru) := by rw [← hw]; exact hD
  have hS : va_S (va_A ws0 sz) s.heap s.heap [] := va_S.rf
  have hl : lv_has ls 3 [(0, .ref (ad 13)), (1, .int a0), (2, .int a1)] := hl
  generalize hQ : MQ below (PstI D clX (tyX cI cL) ws0 (wX cI cL ad ma ko sh lo (de9) wa me ru) sz r9) [.ref (ad 13), .int a0, .int a1].toArray s 0 0 (va_A ws0 sz) = Q
  have J32 : ∀ (de : T_de) (x1 : Int32) (x2 : Int32) (H : Heap) (locs : List Loc) (ls : Array Slot), r_De_agrees_j32 n de x1 x2 = some (r9, de9) → va_P D clX (wX cI cL ad ma ko sh lo de wa me ru) H → va_D (va_A ws0 sz) (wX cI cL ad ma ko sh lo de wa me ru) → va_S (va_A ws0 sz) s.heap H locs → lv_has ls 3 [(0, .ref (ad 13)), (1, .int x1), (2, .int x2)] → W p l e rm_De_agrees s m [.ref (ad 13), .int a0, .int a1].toArray below meth c H locs 0 0 Q (F0 m 32 ls []) := by
    intro de x1 x2 H locs ls h hP hD hS hl
    unfold r_De_agrees_j32 at h
    refine lv_aload_n hx hb d_De_agrees_32 rfl (lv_at hl 0 rfl) ?_
    refine rd_De_depths hx hb hts hown hK hP lk_114 d_De_agrees_33 ?_
    refine lv_iload_n hx hb d_De_agrees_36 rfl (lv_at hl 1 rfl) ?_
    obtain ⟨hi1, v2, ev2, h⟩ := gr_some h
    refine ld_De_depths hx hb hK hP hi1 ev2 d_De_agrees_37 ?_
    refine lv_iload_n hx hb d_De_agrees_38 rfl (lv_at hl 2 rfl) ?_
    refine lv_icmp_ne (tgt := 46) hx hb d_De_agrees_39 (by decide) (fun c3 => ?_) (fun c3 => ?_)
    · rw [if_neg c3] at h
      refine lv_iconst (v := 0) hx hb d_De_agrees_46 (by decide) ?_
      cases h
      subst hQ
      exact k_zret hx hb hr hlk (Or.inl rfl) hP hK hD hS d_De_agrees_47
    · rw [if_pos c3] at h
      refine lv_iconst (v := 1) hx hb d_De_agrees_42 (by decide) ?_
      refine lv_goto (tgt := 47) hx hb d_De_agrees_43 (by decide) ?_
      cases h
      subst hQ
      exact k_zret hx hb hr hlk (Or.inr rfl) hP hK hD hS d_De_agrees_47
  unfold r_De_agrees at h
  refine lv_iload_n hx hb d_De_agrees_0 rfl (lv_at hl 1 rfl) ?_
  refine lv_if_lt (tgt := 13) hx hb d_De_agrees_1 (by decide) (fun c4 => ?_) (fun c4 => ?_)
  · rw [if_pos c4] at h
    refine lv_iconst (v := 0) hx hb d_De_agrees_13 (by decide) ?_
    cases h
    subst hQ
    exact k_zret hx hb hr hlk (Or.inl rfl) hP hK hD hS d_De_agrees_14
  · rw [if_neg c4] at h
    refine lv_iload_n hx hb d_De_agrees_4 rfl (lv_at hl 1 rfl) ?_
    refine lv_aload_n hx hb d_De_agrees_5 rfl (lv_at hl 0 rfl) ?_
    refine rd_De_depths hx hb hts hown hK hP lk_114 d_De_agrees_6 ?_
    refine le_De_depths hx hb hK hP d_De_agrees_9 ?_
    refine lv_icmp_lt (tgt := 15) hx hb d_De_agrees_10 (by decide) (fun c5 => ?_) (fun c5 => ?_)
    · rw [if_pos c5] at h
      refine lv_aload_n hx hb d_De_agrees_15 rfl (lv_at hl 0 rfl) ?_
      refine rd_De_depths hx hb hts hown hK hP lk_114 d_De_agrees_16 ?_
      refine lv_iload_n hx hb d_De_agrees_19 rfl (lv_at hl 1 rfl) ?_
      obtain ⟨hi6, v7, ev7, h⟩ := gr_some h
      refine ld_De_depths hx hb hK hP hi6 ev7 d_De_agrees_20 ?_
      refine lv_iconst (v := -1) hx hb d_De_agrees_21 (by decide) ?_
      refine lv_icmp_ne (tgt := 32) hx hb d_De_agrees_22 (by decide) (fun c8 => ?_) (fun c8 => ?_)
      · rw [if_neg c8] at h
        exact J32 _ _ _ _ _ _ h hP hD hS (lv_sub hl [0, 1, 2] rfl)
      · rw [if_pos c8] at h
        refine lv_aload_n hx hb d_De_agrees_25 rfl (lv_at hl 0 rfl) ?_
        refine rd_De_depths hx hb hts hown hK hP lk_114 d_De_agrees_26 ?_
        refine lv_iload_n hx hb d_De_agrees_29 rfl (lv_at hl 1 rfl) ?_
        refine lv_iload_n hx hb d_De_agrees_30 rfl (lv_at hl 2 rfl) ?_
        obtain ⟨hi9, h⟩ := ga_some h
        refine st_De_depths hx hb hK hP hD hS hi9 d_De_agrees_31 (fun H locs hP hD hS => ?_)
        exact J32 _ _ _ _ _ _ h hP hD hS (lv_sub hl [0, 1, 2] rfl)
    · rw [if_neg c5] at h
      refine lv_iconst (v := 0) hx hb d_De_agrees_13 (by decide) ?_
      cases h
      subst hQ
      exact k_zret hx hb hr hlk (Or.inl rfl) hP hK hD hS d_De_agrees_14
theorem d_De_targetOf_0 : decode b_De_targetOf 0 = .ok (.iload_n 3, 1) := by decide +kernel
theorem d_De_targetOf_1 : decode b_De_targetOf 1 = .ok (.tableswitch 80 10 18 #[51, 51, 80, 61, 51, 80, 80, 80, 71], 51) := by decide +kernel
theorem d_De_targetOf_52 : decode b_De_targetOf 52 = .ok (.aload_n 0, 1) := by decide +kernel
theorem d_De_targetOf_53 : decode b_De_targetOf 53 = .ok (.getfield 15, 3) := by decide +kernel
theorem d_De_targetOf_56 : decode b_De_targetOf 56 = .ok (.iload_n 1, 1) := by decide +kernel
theorem d_De_targetOf_57 : decode b_De_targetOf 57 = .ok (.iload_n 2, 1) := by decide +kernel
theorem d_De_targetOf_58 : decode b_De_targetOf 58 = .ok (.invokevirtual 52, 3) := by decide +kernel
theorem d_De_targetOf_61 : decode b_De_targetOf 61 = .ok (.ireturn, 1) := by decide +kernel
theorem d_De_targetOf_62 : decode b_De_targetOf 62 = .ok (.aload_n 0, 1) := by decide +kernel
theorem d_De_targetOf_63 : decode b_De_targetOf 63 = .ok (.getfield 15, 3) := by decide +kernel
theorem d_De_targetOf_66 : decode b_De_targetOf 66 = .ok (.iload_n 1, 1) := by decide +kernel
theorem d_De_targetOf_67 : decode b_De_targetOf 67 = .ok (.iload_n 2, 1) := by decide +kernel
theorem d_De_targetOf_68 : decode b_De_targetOf 68 = .ok (.invokevirtual 55, 3) := by decide +kernel
theorem d_De_targetOf_71 : decode b_De_targetOf 71 = .ok (.ireturn, 1) := by decide +kernel
theorem d_De_targetOf_72 : decode b_De_targetOf 72 = .ok (.aload_n 0, 1) := by decide +kernel
theorem d_De_targetOf_73 : decode b_De_targetOf 73 = .ok (.getfield 15, 3) := by decide +kernel
theorem d_De_targetOf_76 : decode b_De_targetOf 76 = .ok (.iload_n 1, 1) := by decide +kernel
theorem d_De_targetOf_77 : decode b_De_targetOf 77 = .ok (.invokevirtual 19, 3) := by decide +kernel
theorem d_De_targetOf_80 : decode b_De_targetOf 80 = .ok (.ireturn, 1) := by decide +kernel
theorem d_De_targetOf_81 : decode b_De_targetOf 81 = .ok (.iconst (-1), 1) := by decide +kernel
theorem d_De_targetOf_82 : decode b_De_targetOf 82 = .ok (.ireturn, 1) := by decide +kernel
def r_De_targetOf (n : Nat) (ko : T_ko) (a0 : Int32) (a1 : Int32) (a2 : Int32) : Option (Int32) := if a2 = (10 : Int32) then (r_Co_aAt n ko a0 a1).bind (fun q2 => some (q2)) else if a2 = (11 : Int32) then (r_Co_aAt n ko a0 a1).bind (fun q4 => some (q4)) else if a2 = (13 : Int32) then (r_Co_bAt n ko a0 a1).bind (fun q6 => some (q6)) else if a2 = (14 : Int32) then (r_Co_aAt n ko a0 a1).bind (fun q8 => some (q8)) else if a2 = (18 : Int32) then (r_Co_sizeOf n ko a0).bind (fun q10 => some (q10)) else some ((-1 : Int32))
def rm_De_targetOf : Jvm.Room := { frames := 2, cells := 0, slots := 0, locals := 46 }
set_option maxHeartbeats 4000000 in
set_option maxRecDepth 100000 in
theorem c_De_targetOf {l : Launch} {D : va_G} {cI cL : ClassId} {ad : Nat → Nat} {ma : T_ma} {ko : T_ko} {sh : T_sh} {lo : T_lo} {de : T_de} {wa : T_wa} {me : T_me} {ru : T_ru} {ws0 : va_W} {sz n : Nat} {a0 : Int32} {a1 : Int32} {a2 : Int32} {r9 : Int32} (hw : ws0 = (wX cI cL ad ma ko sh lo de wa me ru)) (h : r_De_targetOf n ko a0 a1 a2 = some r9) : Met l y_De_targetOf (Cond.code y_De_targetOf b_De_targetOf 4 (some .int) :: TB) rm_De_targetOf (PreW D clX (tyX cI cL) ws0 [.ref (ad 13), .int a0, .int a1, .int a2] sz) (PstI D clX (tyX cI cL) ws0 (wX cI cL ad ma ko sh lo de wa me ru) sz r9) 0 0 (va_A ws0 sz) := by
  refine k_met (by decide) (Nat.le_of_ble_eq_true rfl) ?_
  intro p e s m below meth c ls hx hb hr hml hts hown hlk hnm hsz hP hK hD hA hz hl
  have hP : va_P D clX (wX cI cL ad ma ko sh lo de wa me ru) s.heap := by rw [← hw]; exact hP
  have hD : va_D (va_A ws0 sz) (wX cI cL ad ma ko sh lo de wa me ru) := by rw [← hw]; exact hD
  have hS : va_S (va_A ws0 sz) s.heap s.heap [] := va_S.rf
  have hl : lv_has ls 4 [(0, .ref (ad 13)), (1, .int a0), (2, .int a1), (3, .int a2)] := hl
  generalize hQ : MQ below (PstI D clX (tyX cI cL) ws0 (wX cI cL ad ma ko sh lo de wa me ru) sz r9) [.ref (ad 13), .int a0, .int a1, .int a2].toArray s 0 0 (va_A ws0 sz) = Q
  unfold r_De_targetOf at h
  refine lv_iload_n hx hb d_De_targetOf_0 rfl (lv_at hl 3 rfl) ?_
  by_cases c1 : a2 = (10 : Int32)
  · rw [if_pos c1] at h
    refine k_sw c1 ?_
    refine lv_tableIn (tgt := 52) hx hb d_De_targetOf_1 (by decide) (by decide) rfl (by decide) ?_
    refine lv_aload_n hx hb d_De_targetOf_52 rfl (lv_at hl 0 rfl) ?_
    refine rd_De_code hx hb hts hown hK hP lk_113 d_De_targetOf_53 ?_
    refine lv_iload_n hx hb d_De_targetOf_56 rfl (lv_at hl 1 rfl) ?_
    refine lv_iload_n hx hb d_De_targetOf_57 rfl (lv_at hl 2 rfl) ?_
    obtain ⟨q2, hq2, h⟩ := Option.bind_eq_some_iff.mp h
    refine k_I (k_runVN ⟨hx, hb, hml, hown, hts⟩ (c_Co_aAt rfl hq2) ok_Co_aAt is_Co_aAt lk_479 rfl rfl ⟨by decide, by decide⟩ hP hK hD hS hA hz (ci := 1) (q0 := 1) rfl rfl ob_Co rfl hl.1 rfl (Nat.le_of_ble_eq_true rfl) d_De_targetOf_58 ⟨Nat.zero_le _, Nat.zero_le _⟩) hD hS hA (fun H locs hP hD hS => ?_)
    cases h
    subst hQ
    exact k_iret hx hb hr hlk hP hK hD hS d_De_targetOf_61
  · rw [if_neg c1] at h
    by_cases c3 : a2 = (11 : Int32)
    · rw [if_pos c3] at h
      refine k_sw c3 ?_
      refine lv_tableIn (tgt := 52) hx hb d_De_targetOf_1 (by decide) (by decide) rfl (by decide) ?_
      refine lv_aload_n hx hb d_De_targetOf_52 rfl (lv_at hl 0 rfl) ?_
      refine rd_De_code hx hb hts hown hK hP lk_113 d_De_targetOf_53 ?_
      refine lv_iload_n hx hb d_De_targetOf_56 rfl (lv_at hl 1 rfl) ?_
      refine lv_iload_n hx hb d_De_targetOf_57 rfl (lv_at hl 2 rfl) ?_
      obtain ⟨q4, hq4, h⟩ := Option.bind_eq_some_iff.mp h
      refine k_I (k_runVN ⟨hx, hb, hml, hown, hts⟩ (c_Co_aAt rfl hq4) ok_Co_aAt is_Co_aAt lk_479 rfl rfl ⟨by decide, by decide⟩ hP hK hD hS hA hz (ci := 1) (q0 := 1) rfl rfl ob_Co rfl hl.1 rfl (Nat.le_of_ble_eq_true rfl) d_De_targetOf_58 ⟨Nat.zero_le _, Nat.zero_le _⟩) hD hS hA (fun H locs hP hD hS => ?_)
      cases h
      subst hQ
      exact k_iret hx hb hr hlk hP hK hD hS d_De_targetOf_61
    · rw [if_neg c3] at h
      by_cases c5 : a2 = (13 : Int32)
      · rw [if_pos c5] at h
        refine k_sw c5 ?_
        refine lv_tableIn (tgt := 62) hx hb d_De_targetOf_1 (by decide) (by decide) rfl (by decide) ?_
        refine lv_aload_n hx hb d_De_targetOf_62 rfl (lv_at hl 0 rfl) ?_
        refine rd_De_code hx hb hts hown hK hP lk_113 d_De_targetOf_63 ?_
        refine lv_iload_n hx hb d_De_targetOf_66 rfl (lv_at hl 1 rfl) ?_
        refine lv_iload_n hx hb d_De_targetOf_67 rfl (lv_at hl 2 rfl) ?_
        obtain ⟨q6, hq6, h⟩ := Option.bind_eq_some_iff.mp h
        refine k_I (k_runVN ⟨hx, hb, hml, hown, hts⟩ (c_Co_bAt rfl hq6) ok_Co_bAt is_Co_bAt lk_480 rfl rfl ⟨by decide, by decide⟩ hP hK hD hS hA hz (ci := 1) (q0 := 1) rfl rfl ob_Co rfl hl.1 rfl (Nat.le_of_ble_eq_true rfl) d_De_targetOf_68 ⟨Nat.zero_le _, Nat.zero_le _⟩) hD hS hA (fun H locs hP hD hS => ?_)
        cases h
        subst hQ
        exact k_iret hx hb hr hlk hP hK hD hS d_De_targetOf_71
      · rw [if_neg c5] at h
        by_cases c7 : a2 = (14 : Int32)
        · rw [if_pos c7] at h
          refine k_sw c7 ?_
          refine lv_tableIn (tgt := 52) hx hb d_De_targetOf_1 (by decide) (by decide) rfl (by decide) ?_
          refine lv_aload_n hx hb d_De_targetOf_52 rfl (lv_at hl 0 rfl) ?_
          refine rd_De_code hx hb hts hown hK hP lk_113 d_De_targetOf_53 ?_
          refine lv_iload_n hx hb d_De_targetOf_56 rfl (lv_at hl 1 rfl) ?_
          refine lv_iload_n hx hb d_De_targetOf_57 rfl (lv_at hl 2 rfl) ?_
          obtain ⟨q8, hq8, h⟩ := Option.bind_eq_some_iff.mp h
          refine k_I (k_runVN ⟨hx, hb, hml, hown, hts⟩ (c_Co_aAt rfl hq8) ok_Co_aAt is_Co_aAt lk_479 rfl rfl ⟨by decide, by decide⟩ hP hK hD hS hA hz (ci := 1) (q0 := 1) rfl rfl ob_Co rfl hl.1 rfl (Nat.le_of_ble_eq_true rfl) d_De_targetOf_58 ⟨Nat.zero_le _, Nat.zero_le _⟩) hD hS hA (fun H locs hP hD hS => ?_)
          cases h
          subst hQ
          exact k_iret hx hb hr hlk hP hK hD hS d_De_targetOf_61
        · rw [if_neg c7] at h
          by_cases c9 : a2 = (18 : Int32)
          · rw [if_pos c9] at h
            refine k_sw c9 ?_
            refine lv_tableIn (tgt := 72) hx hb d_De_targetOf_1 (by decide) (by decide) rfl (by decide) ?_
            refine lv_aload_n hx hb d_De_targetOf_72 rfl (lv_at hl 0 rfl) ?_
            refine rd_De_code hx hb hts hown hK hP lk_113 d_De_targetOf_73 ?_
            refine lv_iload_n hx hb d_De_targetOf_76 rfl (lv_at hl 1 rfl) ?_
            obtain ⟨q10, hq10, h⟩ := Option.bind_eq_some_iff.mp h
            refine k_I (k_runVN ⟨hx, hb, hml, hown, hts⟩ (c_Co_sizeOf rfl hq10) ok_Co_sizeOf is_Co_sizeOf lk_460 rfl rfl ⟨by decide, by decide⟩ hP hK hD hS hA hz (ci := 1) (q0 := 1) rfl rfl ob_Co rfl hl.1 rfl (Nat.le_of_ble_eq_true rfl) d_De_targetOf_77 ⟨Nat.zero_le _, Nat.zero_le _⟩) hD hS hA (fun H locs hP hD hS => ?_)
            cases h
            subst hQ
            exact k_iret hx hb hr hlk hP hK hD hS d_De_targetOf_80
          · rw [if_neg c9] at h
            by_cases c11 : a2 = (12 : Int32)
            · refine k_sw c11 ?_
              refine lv_tableIn (tgt := 81) hx hb d_De_targetOf_1 (by decide) (by decide) rfl (by decide) ?_
              refine lv_iconst (v := -1) hx hb d_De_targetOf_81 (by decide) ?_
              cases h
              subst hQ
              exact k_iret hx hb hr hlk hP hK hD hS d_De_targetOf_82
            ·
              by_cases c12 : a2 = (15 : Int32)
              · refine k_sw c12 ?_
                refine lv_tableIn (tgt := 81) hx hb d_De_targetOf_1 (by decide) (by decide) rfl (by decide) ?_
                refine lv_iconst (v := -1) hx hb d_De_targetOf_81 (by decide) ?_
                cases h
                subst hQ
                exact k_iret hx hb hr hlk hP hK hD hS d_De_targetOf_82
              ·
                by_cases c13 : a2 = (16 : Int32)
                · refine k_sw c13 ?_
                  refine lv_tableIn (tgt := 81) hx hb d_De_targetOf_1 (by decide) (by decide) rfl (by decide) ?_
                  refine lv_iconst (v := -1) hx hb d_De_targetOf_81 (by decide) ?_
                  cases h
                  subst hQ
                  exact k_iret hx hb hr hlk hP hK hD hS d_De_targetOf_82
                ·
                  by_cases c14 : a2 = (17 : Int32)
                  · refine k_sw c14 ?_
                    refine lv_tableIn (tgt := 81) hx hb d_De_targetOf_1 (by decide) (by decide) rfl (by decide) ?_
                    refine lv_iconst (v := -1) hx hb d_De_targetOf_81 (by decide) ?_
                    cases h
                    subst hQ
                    exact k_iret hx hb hr hlk hP hK hD hS d_De_targetOf_82
                  ·
                    refine lv_tableOut (tgt := 81) hx hb d_De_targetOf_1 (by have ec1 := lv_neT c1 (a := 10) (by decide); have ec3 := lv_neT c3 (a := 11) (by decide); have ec5 := lv_neT c5 (a := 13) (by decide); have ec7 := lv_neT c7 (a := 14) (by decide); have ec9 := lv_neT c9 (a := 18) (by decide); have ec11 := lv_neT c11 (a := 12) (by decide); have ec12 := lv_neT c12 (a := 15) (by decide); have ec13 := lv_neT c13 (a := 16) (by decide); have ec14 := lv_neT c14 (a := 17) (by decide); omega) (by decide) ?_
                    refine lv_iconst (v := -1) hx hb d_De_targetOf_81 (by decide) ?_
                    cases h
                    subst hQ
                    exact k_iret hx hb hr hlk hP hK hD hS d_De_targetOf_82
theorem d_De_faultAt_0 : decode b_De_faultAt 0 = .ok (.aload_n 0, 1) := by decide +kernel
theorem d_De_faultAt_1 : decode b_De_faultAt 1 = .ok (.getfield 15, 3) := by decide +kernel
theorem d_De_faultAt_4 : decode b_De_faultAt 4 = .ok (.iload_n 1, 1) := by decide +kernel
theorem d_De_faultAt_5 : decode b_De_faultAt 5 = .ok (.iload_n 2, 1) := by decide +kernel
theorem d_De_faultAt_6 : decode b_De_faultAt 6 = .ok (.invokevirtual 35, 3) := by decide +kernel
theorem d_De_faultAt_9 : decode b_De_faultAt 9 = .ok (.istore 4, 2) := by decide +kernel
theorem d_De_faultAt_11 : decode b_De_faultAt 11 = .ok (.iload 4, 2) := by decide +kernel
theorem d_De_faultAt_13 : decode b_De_faultAt 13 = .ok (.ifCond .lt 31, 3) := by decide +kernel
theorem d_De_faultAt_16 : decode b_De_faultAt 16 = .ok (.iload 4, 2) := by decide +kernel
theorem d_De_faultAt_18 : decode b_De_faultAt 18 = .ok (.getstatic 39, 3) := by decide +kernel
theorem d_De_faultAt_21 : decode b_De_faultAt 21 = .ok (.arraylength, 1) := by decide +kernel
theorem d_De_faultAt_22 : decode b_De_faultAt 22 = .ok (.if_icmp .ge 22, 3) := by decide +kernel
theorem d_De_faultAt_25 : decode b_De_faultAt 25 = .ok (.iload 4, 2) := by decide +kernel
theorem d_De_faultAt_27 : decode b_De_faultAt 27 = .ok (.getstatic 42, 3) := by decide +kernel
theorem d_De_faultAt_30 : decode b_De_faultAt 30 = .ok (.arraylength, 1) := by decide +kernel
theorem d_De_faultAt_31 : decode b_De_faultAt 31 = .ok (.if_icmp .ge 13, 3) := by decide +kernel
theorem d_De_faultAt_34 : decode b_De_faultAt 34 = .ok (.getstatic 39, 3) := by decide +kernel
theorem d_De_faultAt_37 : decode b_De_faultAt 37 = .ok (.iload 4, 2) := by decide +kernel
theorem d_De_faultAt_39 : decode b_De_faultAt 39 = .ok (.iaload, 1) := by decide +kernel
theorem d_De_faultAt_40 : decode b_De_faultAt 40 = .ok (.iload_n 3, 1) := by decide +kernel
theorem d_De_faultAt_41 : decode b_De_faultAt 41 = .ok (.if_icmp .le 6, 3) := by decide +kernel
theorem d_De_faultAt_44 : decode b_De_faultAt 44 = .ok (.bipush 8, 2) := by decide +kernel
theorem d_De_faultAt_46 : decode b_De_faultAt 46 = .ok (.ireturn, 1) := by decide +kernel
theorem d_De_faultAt_47 : decode b_De_faultAt 47 = .ok (.iload_n 3, 1) := by decide +kernel
theorem d_De_faultAt_48 : decode b_De_faultAt 48 = .ok (.getstatic 39, 3) := by decide +kernel
theorem d_De_faultAt_51 : decode b_De_faultAt 51 = .ok (.iload 4, 2) := by decide +kernel
theorem d_De_faultAt_53 : decode b_De_faultAt 53 = .ok (.iaload, 1) := by decide +kernel
theorem d_De_faultAt_54 : decode b_De_faultAt 54 = .ok (.isub, 1) := by decide +kernel
theorem d_De_faultAt_55 : decode b_De_faultAt 55 = .ok (.getstatic 42, 3) := by decide +kernel
theorem d_De_faultAt_58 : decode b_De_faultAt 58 = .ok (.iload 4, 2) := by decide +kernel
theorem d_De_faultAt_60 : decode b_De_faultAt 60 = .ok (.iaload, 1) := by decide +kernel
theorem d_De_faultAt_61 : decode b_De_faultAt 61 = .ok (.iadd, 1) := by decide +kernel
theorem d_De_faultAt_62 : decode b_De_faultAt 62 = .ok (.istore 5, 2) := by decide +kernel
theorem d_De_faultAt_64 : decode b_De_faultAt 64 = .ok (.iload 5, 2) := by decide +kernel
theorem d_De_faultAt_66 : decode b_De_faultAt 66 = .ok (.bipush 64, 2) := by decide +kernel
theorem d_De_faultAt_68 : decode b_De_faultAt 68 = .ok (.if_icmp .le 6, 3) := by decide +kernel
theorem d_De_faultAt_71 : decode b_De_faultAt 71 = .ok (.bipush 9, 2) := by decide +kernel
theorem d_De_faultAt_73 : decode b_De_faultAt 73 = .ok (.ireturn, 1) := by decide +kernel
theorem d_De_faultAt_74 : decode b_De_faultAt 74 = .ok (.iload 4, 2) := by decide +kernel
theorem d_De_faultAt_76 : decode b_De_faultAt 76 = .ok (.bipush 10, 2) := by decide +kernel
theorem d_De_faultAt_78 : decode b_De_faultAt 78 = .ok (.if_icmp .eq 21, 3) := by decide +kernel
theorem d_De_faultAt_81 : decode b_De_faultAt 81 = .ok (.iload 4, 2) := by decide +kernel
theorem d_De_faultAt_83 : decode b_De_faultAt 83 = .ok (.bipush 14, 2) := by decide +kernel
theorem d_De_faultAt_85 : decode b_De_faultAt 85 = .ok (.if_icmp .eq 14, 3) := by decide +kernel
theorem d_De_faultAt_88 : decode b_De_faultAt 88 = .ok (.iload 4, 2) := by decide +kernel
theorem d_De_faultAt_90 : decode b_De_faultAt 90 = .ok (.bipush 18, 2) := by decide +kernel
theorem d_De_faultAt_92 : decode b_De_faultAt 92 = .ok (.if_icmp .eq 7, 3) := by decide +kernel
theorem d_De_faultAt_95 : decode b_De_faultAt 95 = .ok (.iconst 1, 1) := by decide +kernel
theorem d_De_faultAt_96 : decode b_De_faultAt 96 = .ok (.goto 4, 3) := by decide +kernel
theorem d_De_faultAt_99 : decode b_De_faultAt 99 = .ok (.iconst 0, 1) := by decide +kernel
theorem d_De_faultAt_100 : decode b_De_faultAt 100 = .ok (.istore 6, 2) := by decide +kernel
theorem d_De_faultAt_102 : decode b_De_faultAt 102 = .ok (.iload 6, 2) := by decide +kernel
theorem d_De_faultAt_104 : decode b_De_faultAt 104 = .ok (.ifCond .eq 18, 3) := by decide +kernel
theorem d_De_faultAt_107 : decode b_De_faultAt 107 = .ok (.aload_n 0, 1) := by decide +kernel
theorem d_De_faultAt_108 : decode b_De_faultAt 108 = .ok (.iload_n 2, 1) := by decide +kernel
theorem d_De_faultAt_109 : decode b_De_faultAt 109 = .ok (.iconst 1, 1) := by decide +kernel
theorem d_De_faultAt_110 : decode b_De_faultAt 110 = .ok (.iadd, 1) := by decide +kernel
theorem d_De_faultAt_111 : decode b_De_faultAt 111 = .ok (.iload 5, 2) := by decide +kernel
theorem d_De_faultAt_113 : decode b_De_faultAt 113 = .ok (.invokevirtual 45, 3) := by decide +kernel
theorem d_De_faultAt_116 : decode b_De_faultAt 116 = .ok (.ifCond .ne 6, 3) := by decide +kernel
theorem d_De_faultAt_119 : decode b_De_faultAt 119 = .ok (.bipush 10, 2) := by decide +kernel
theorem d_De_faultAt_121 : decode b_De_faultAt 121 = .ok (.ireturn, 1) := by decide +kernel
theorem d_De_faultAt_122 : decode b_De_faultAt 122 = .ok (.aload_n 0, 1) := by decide +kernel
theorem d_De_faultAt_123 : decode b_De_faultAt 123 = .ok (.iload_n 1, 1) := by decide +kernel
theorem d_De_faultAt_124 : decode b_De_faultAt 124 = .ok (.iload_n 2, 1) := by decide +kernel
theorem d_De_faultAt_125 : decode b_De_faultAt 125 = .ok (.iload 4, 2) := by decide +kernel
theorem d_De_faultAt_127 : decode b_De_faultAt 127 = .ok (.invokevirtual 49, 3) := by decide +kernel
theorem d_De_faultAt_130 : decode b_De_faultAt 130 = .ok (.istore 7, 2) := by decide +kernel
theorem d_De_faultAt_132 : decode b_De_faultAt 132 = .ok (.iload 7, 2) := by decide +kernel
theorem d_De_faultAt_134 : decode b_De_faultAt 134 = .ok (.iconst (-1), 1) := by decide +kernel
theorem d_De_faultAt_135 : decode b_De_faultAt 135 = .ok (.if_icmp .eq 14, 3) := by decide +kernel
theorem d_De_faultAt_138 : decode b_De_faultAt 138 = .ok (.aload_n 0, 1) := by decide +kernel
theorem d_De_faultAt_139 : decode b_De_faultAt 139 = .ok (.iload 7, 2) := by decide +kernel
theorem d_De_faultAt_141 : decode b_De_faultAt 141 = .ok (.iload 5, 2) := by decide +kernel
theorem d_De_faultAt_143 : decode b_De_faultAt 143 = .ok (.invokevirtual 45, 3) := by decide +kernel
theorem d_De_faultAt_146 : decode b_De_faultAt 146 = .ok (.ifCond .eq 7, 3) := by decide +kernel
theorem d_De_faultAt_149 : decode b_De_faultAt 149 = .ok (.iconst 0, 1) := by decide +kernel
theorem d_De_faultAt_150 : decode b_De_faultAt 150 = .ok (.goto 5, 3) := by decide +kernel
theorem d_De_faultAt_153 : decode b_De_faultAt 153 = .ok (.bipush 10, 2) := by decide +kernel
theorem d_De_faultAt_155 : decode b_De_faultAt 155 = .ok (.ireturn, 1) := by decide +kernel
def r_De_faultAt_j122 (n : Nat) (ko : T_ko)  (de : T_de) (x1 : Int32) (x2 : Int32) (x4 : Int32) (x5 : Int32) : Option (Int32 × T_de) := (r_De_targetOf n ko x1 x2 x4).bind (fun q1 => if q1 = (-1 : Int32) then some ((0 : Int32), de) else (r_De_agrees n de q1 x5).bind (fun q3 => if q3.1 = 0 then some ((10 : Int32), q3.2) else some ((0 : Int32), q3.2)))
def r_De_faultAt_j100 (n : Nat) (ko : T_ko)  (de : T_de) (x1 : Int32) (x2 : Int32) (x4 : Int32) (x5 : Int32) (y0 : Int32) : Option (Int32 × T_de) := if y0 = 0 then r_De_faultAt_j122 n ko de x1 x2 x4 x5 else (r_De_agrees n de (x2 + (1 : Int32)) x5).bind (fun q6 => if q6.1 = 0 then some ((10 : Int32), q6.2) else r_De_faultAt_j122 n ko q6.2 x1 x2 x4 x5)
def r_De_faultAt_j99 (n : Nat) (ko : T_ko)  (de : T_de) (x1 : Int32) (x2 : Int32) (x4 : Int32) (x5 : Int32) : Option (Int32 × T_de) := r_De_faultAt_j100 n ko de x1 x2 x4 x5 (0 : Int32)
def r_De_faultAt (n : Nat) (ko : T_ko) (de : T_de) (a0 : Int32) (a1 : Int32) (a2 : Int32) : Option (Int32 × T_de) := (r_Co_numberAt n ko a0 a1).bind (fun q8 => if q8 < 0 then some ((8 : Int32), de) else if (19 : Int32) ≤ q8 then some ((8 : Int32), de) else if (19 : Int32) ≤ q8 then some ((8 : Int32), de) else gr tkn q8 19 (fun v13 => if v13 ≤ a2 then gr tkn q8 19 (fun v16 => gr lft q8 19 (fun v18 => if ((a2 - v16) + v18) ≤ (64 : Int32) then if q8 = (10 : Int32) then r_De_faultAt_j99 n ko de a0 a1 q8 ((a2 - v16) + v18) else if q8 = (14 : Int32) then r_De_faultAt_j99 n ko de a0 a1 q8 ((a2 - v16) + v18) else if q8 = (18 : Int32) then r_De_faultAt_j99 n ko de a0 a1 q8 ((a2 - v16) + v18) else r_De_faultAt_j100 n ko de a0 a1 q8 ((a2 - v16) + v18) (1 : Int32) else some ((9 : Int32), de))) else some ((8 : Int32), de)))
def rm_De_faultAt : Jvm.Room := { frames := 3, cells := 0, slots := 0, locals := 69 }
set_option maxHeartbeats 4000000 in
set_option maxRecDepth 100000 in
theorem c_De_faultAt {l : Launch} {D : va_G} {cI cL : ClassId} {ad : Nat → Nat} {ma : T_ma} {ko : T_ko} {sh : T_sh} {lo : T_lo} {de : T_de} {wa : T_wa} {me : T_me} {ru : T_ru} {ws0 : va_W} {sz n : Nat} {a0 : Int32} {a1 : Int32} {a2 : Int32} {r9 : Int32} {de9 : T_de} (hw : ws0 = (wX cI cL ad ma ko sh lo de wa me ru)) (h : r_De_faultAt n ko de a0 a1 a2 = some (r9, de9)) : Met l y_De_faultAt (Cond.code y_De_faultAt b_De_faultAt 8 (some .int) :: TB) rm_De_faultAt (PreW D clX (tyX cI cL) ws0 [.ref (ad 13), .int a0, .int a1, .int a2] sz) (PstI D clX (tyX cI cL) ws0 (wX cI cL ad ma ko sh lo (de9) wa me ru) sz r9) 0 0 (va_A ws0 sz) := by
  refine k_met (by decide) (Nat.le_of_ble_eq_true rfl) ?_
  intro p e s m below meth c ls hx hb hr hml hts hown hlk hnm hsz hP hK hD hA hz hl
  have hP : va_P D clX (wX cI cL ad ma ko sh lo de wa me ru) s.heap := by rw [← hw]; exact hP
  have hD : va_D (va_A ws0 sz) (wX cI cL ad ma ko sh lo de wa me ru) := by rw [← hw]; exact hD
  have hS : va_S (va_A ws0 sz) s.heap s.heap [] := va_S.rf
  have hl : lv_has ls 8 [(0, .ref (ad 13)), (1, .int a0), (2, .int a1), (3, .int a2)] := hl
  obtain ⟨hnw, t1, t2, z1, z2, z3, z4⟩ := id hz
  generalize hQ : MQ below (PstI D clX (tyX cI cL) ws0 (wX cI cL ad ma ko sh lo (de9) wa me ru) sz r9) [.ref (ad 13), .int a0, .int a1, .int a2].toArray s 0 0 (va_A ws0 sz) = Q
  have J122 : ∀ (de : T_de) (x1 : Int32) (x2 : Int32) (x4 : Int32) (x5 : Int32) (H : Heap) (locs : List Loc) (ls : Array Slot), r_De_faultAt_j122 n ko de x1 x2 x4 x5 = some (r9, de9) → va_P D clX (wX cI cL ad ma ko sh lo de wa me ru) H → va_D (va_A ws0 sz) (wX cI cL ad ma ko sh lo de wa me ru) → va_S (va_A ws0 sz) s.heap H locs → lv_has ls 8 [(0, .ref (ad 13)), (1, .int x1), (2, .int x2), (4, .int x4), (5, .int x5)] → W p l e rm_De_faultAt s m [.ref (ad 13), .int a0, .int a1, .int a2].toArray below meth c H locs 0 0 Q (F0 m 122 ls []) := by
    intro de x1 x2 x4 x5 H locs ls h hP hD hS hl
    unfold r_De_faultAt_j122 at h
    refine lv_aload_n hx hb d_De_faultAt_122 rfl (lv_at hl 0 rfl) ?_
    refine lv_iload_n hx hb d_De_faultAt_123 rfl (lv_at hl 1 rfl) ?_
    refine lv_iload_n hx hb d_De_faultAt_124 rfl (lv_at hl 2 rfl) ?_
    refine lv_iload hx hb d_De_faultAt_125 (lv_at hl 3 rfl) ?_
    obtain ⟨q1, hq1, h⟩ := Option.bind_eq_some_iff.mp h
    refine k_I (k_runV ⟨hx, hb, hml, hown, hts⟩ (c_De_targetOf rfl hq1) ok_De_targetOf is_De_targetOf lk_475 rfl rfl ⟨by decide, by decide⟩ hP hK hD hS hA hz (ci := 4) (q0 := 13) rfl rfl ob_De rfl hl.1 rfl (Nat.le_of_ble_eq_true rfl) d_De_faultAt_127 ⟨Nat.zero_le _, Nat.zero_le _⟩) hD hS hA (fun H locs hP hD hS => ?_)
    refine lv_istore (lv' := [(7, .int q1), (0, .ref (ad 13)), (1, .int x1), (2, .int x2), (4, .int x4), (5, .int x5)]) hx hb d_De_faultAt_130 hl (by decide) rfl (fun ls hl => ?_)
    refine lv_iload hx hb d_De_faultAt_132 (lv_at hl 0 rfl) ?_
    refine lv_iconst (v := -1) hx hb d_De_faultAt_134 (by decide) ?_
    refine lv_icmp_eq (tgt := 149) hx hb d_De_faultAt_135 (by decide) (fun c2 => ?_) (fun c2 => ?_)
    · rw [if_pos c2] at h
      refine lv_iconst (v := 0) hx hb d_De_faultAt_149 (by decide) ?_
      refine lv_goto (tgt := 155) hx hb d_De_faultAt_150 (by decide) ?_
      cases h
      subst hQ
      exact k_iret hx hb hr hlk hP hK hD hS d_De_faultAt_155
    · rw [if_neg c2] at h
      refine lv_aload_n hx hb d_De_faultAt_138 rfl (lv_at hl 1 rfl) ?_
      refine lv_iload hx hb d_De_faultAt_139 (lv_at hl 0 rfl) ?_
      refine lv_iload hx hb d_De_faultAt_141 (lv_at hl 5 rfl) ?_
      obtain ⟨q3, hq3, h⟩ := Option.bind_eq_some_iff.mp h
      refine k_I (k_runV ⟨hx, hb, hml, hown, hts⟩ (c_De_agrees rfl hq3) ok_De_agrees is_De_agrees lk_471 rfl rfl ⟨by decide, by decide⟩ hP hK hD hS hA hz (ci := 4) (q0 := 13) rfl rfl ob_De rfl hl.1 rfl (Nat.le_of_ble_eq_true rfl) d_De_faultAt_143 ⟨Nat.zero_le _, Nat.zero_le _⟩) hD hS hA (fun H locs hP hD hS => ?_)
      refine lv_if_eq (tgt := 153) hx hb d_De_faultAt_146 (by decide) (fun c4 => ?_) (fun c4 => ?_)
      · rw [if_pos c4] at h
        refine lv_bipush (v := 10) hx hb d_De_faultAt_153 (by decide) ?_
        cases h
        subst hQ
        exact k_iret hx hb hr hlk hP hK hD hS d_De_faultAt_155
      · rw [if_neg c4] at h
        refine lv_iconst (v := 0) hx hb d_De_faultAt_149 (by decide) ?_
        refine lv_goto (tgt := 155) hx hb d_De_faultAt_150 (by decide) ?_
        cases h
        subst hQ
        exact k_iret hx hb hr hlk hP hK hD hS d_De_faultAt_155
  have J100 : ∀ (de : T_de) (x1 : Int32) (x2 : Int32) (x4 : Int32) (x5 : Int32) (y0 : Int32) (H : Heap) (locs : List Loc) (ls : Array Slot), r_De_faultAt_j100 n ko de x1 x2 x4 x5 y0 = some (r9, de9) → va_P D clX (wX cI cL ad ma ko sh lo de wa me ru) H → va_D (va_A ws0 sz) (wX cI cL ad ma ko sh lo de wa me ru) → va_S (va_A ws0 sz) s.heap H locs → lv_has ls 8 [(0, .ref (ad 13)), (1, .int x1), (2, .int x2), (4, .int x4), (5, .int x5)] → W p l e rm_De_faultAt s m [.ref (ad 13), .int a0, .int a1, .int a2].toArray below meth c H locs 0 0 Q (F0 m 100 ls [.int y0]) := by
    intro de x1 x2 x4 x5 y0 H locs ls h hP hD hS hl
    unfold r_De_faultAt_j100 at h
    refine lv_istore (lv' := [(6, .int y0), (0, .ref (ad 13)), (1, .int x1), (2, .int x2), (4, .int x4), (5, .int x5)]) hx hb d_De_faultAt_100 hl (by decide) rfl (fun ls hl => ?_)
    refine lv_iload hx hb d_De_faultAt_102 (lv_at hl 0 rfl) ?_
    refine lv_if_eq (tgt := 122) hx hb d_De_faultAt_104 (by decide) (fun c5 => ?_) (fun c5 => ?_)
    · rw [if_pos c5] at h
      exact J122 _ _ _ _ _ _ _ _ h hP hD hS (lv_sub hl [1, 2, 3, 4, 5] rfl)
    · rw [if_neg c5] at h
      refine lv_aload_n hx hb d_De_faultAt_107 rfl (lv_at hl 1 rfl) ?_
      refine lv_iload_n hx hb d_De_faultAt_108 rfl (lv_at hl 3 rfl) ?_
      refine lv_iconst (v := 1) hx hb d_De_faultAt_109 (by decide) ?_
      refine lv_iadd hx hb d_De_faultAt_110 ?_
      refine lv_iload hx hb d_De_faultAt_111 (lv_at hl 5 rfl) ?_
      obtain ⟨q6, hq6, h⟩ := Option.bind_eq_some_iff.mp h
      refine k_I (k_runV ⟨hx, hb, hml, hown, hts⟩ (c_De_agrees rfl hq6) ok_De_agrees is_De_agrees lk_471 rfl rfl ⟨by decide, by decide⟩ hP hK hD hS hA hz (ci := 4) (q0 := 13) rfl rfl ob_De rfl hl.1 rfl (Nat.le_of_ble_eq_true rfl) d_De_faultAt_113 ⟨Nat.zero_le _, Nat.zero_le _⟩) hD hS hA (fun H locs hP hD hS => ?_)
      refine lv_if_ne (tgt := 122) hx hb d_De_faultAt_116 (by decide) (fun c7 => ?_) (fun c7 => ?_)
      · rw [if_neg c7] at h
        exact J122 _ _ _ _ _ _ _ _ h hP hD hS (lv_sub hl [1, 2, 3, 4, 5] rfl)
      · rw [if_pos c7] at h
        refine lv_bipush (v := 10) hx hb d_De_faultAt_119 (by decide) ?_
        cases h
        subst hQ
        exact k_iret hx hb hr hlk hP hK hD hS d_De_faultAt_121
  have J99 : ∀ (de : T_de) (x1 : Int32) (x2 : Int32) (x4 : Int32) (x5 : Int32) (H : Heap) (locs : List Loc) (ls : Array Slot), r_De_faultAt_j99 n ko de x1 x2 x4 x5 = some (r9, de9) → va_P D clX (wX cI cL ad ma ko sh lo de wa me ru) H → va_D (va_A ws0 sz) (wX cI cL ad ma ko sh lo de wa me ru) → va_S (va_A ws0 sz) s.heap H locs → lv_has ls 8 [(0, .ref (ad 13)), (1, .int x1), (2, .int x2), (4, .int x4), (5, .int x5)] → W p l e rm_De_faultAt s m [.ref (ad 13), .int a0, .int a1, .int a2].toArray below meth c H locs 0 0 Q (F0 m 99 ls []) := by
    intro de x1 x2 x4 x5 H locs ls h hP hD hS hl
    unfold r_De_faultAt_j99 at h
    refine lv_iconst (v := 0) hx hb d_De_faultAt_99 (by decide) ?_
    exact J100 _ _ _ _ _ _ _ _ _ h hP hD hS (lv_sub hl [0, 1, 2, 3, 4] rfl)
  unfold r_De_faultAt at h
  refine lv_aload_n hx hb d_De_faultAt_0 rfl (lv_at hl 0 rfl) ?_
  refine rd_De_code hx hb hts hown hK hP lk_113 d_De_faultAt_1 ?_
  refine lv_iload_n hx hb d_De_faultAt_4 rfl (lv_at hl 1 rfl) ?_
  refine lv_iload_n hx hb d_De_faultAt_5 rfl (lv_at hl 2 rfl) ?_
  obtain ⟨q8, hq8, h⟩ := Option.bind_eq_some_iff.mp h
  refine k_I (k_runVN ⟨hx, hb, hml, hown, hts⟩ (c_Co_numberAt rfl hq8) ok_Co_numberAt is_Co_numberAt lk_466 rfl rfl ⟨by decide, by decide⟩ hP hK hD hS hA hz (ci := 1) (q0 := 1) rfl rfl ob_Co rfl hl.1 rfl (Nat.le_of_ble_eq_true rfl) d_De_faultAt_6 ⟨Nat.zero_le _, Nat.zero_le _⟩) hD hS hA (fun H locs hP hD hS => ?_)
  refine lv_istore (lv' := [(4, .int q8), (0, .ref (ad 13)), (1, .int a0), (2, .int a1), (3, .int a2)]) hx hb d_De_faultAt_9 hl (by decide) rfl (fun ls hl => ?_)
  refine lv_iload hx hb d_De_faultAt_11 (lv_at hl 0 rfl) ?_
  refine lv_if_lt (tgt := 44) hx hb d_De_faultAt_13 (by decide) (fun c9 => ?_) (fun c9 => ?_)
  · rw [if_pos c9] at h
    refine lv_bipush (v := 8) hx hb d_De_faultAt_44 (by decide) ?_
    cases h
    subst hQ
    exact k_iret hx hb hr hlk hP hK hD hS d_De_faultAt_46
  · rw [if_neg c9] at h
    refine lv_iload hx hb d_De_faultAt_16 (lv_at hl 0 rfl) ?_
    refine va_gets hx hb z1 hS hown (hts _ lk_467) (fun _ h9 => h9) d_De_faultAt_18 ?_
    refine va_tlen (v := 19) hx hb z2 hS rfl d_De_faultAt_21 ?_
    refine lv_icmp_ge (tgt := 44) hx hb d_De_faultAt_22 (by decide) (fun c10 => ?_) (fun c10 => ?_)
    · rw [if_pos c10] at h
      refine lv_bipush (v := 8) hx hb d_De_faultAt_44 (by decide) ?_
      cases h
      subst hQ
      exact k_iret hx hb hr hlk hP hK hD hS d_De_faultAt_46
    · rw [if_neg c10] at h
      refine lv_iload hx hb d_De_faultAt_25 (lv_at hl 0 rfl) ?_
      refine va_gets hx hb z3 hS hown (hts _ lk_469) (fun _ h9 => h9) d_De_faultAt_27 ?_
      refine va_tlen (v := 19) hx hb z4 hS rfl d_De_faultAt_30 ?_
      refine lv_icmp_ge (tgt := 44) hx hb d_De_faultAt_31 (by decide) (fun c11 => ?_) (fun c11 => ?_)
      · rw [if_pos c11] at h
        refine lv_bipush (v := 8) hx hb d_De_faultAt_44 (by decide) ?_
        cases h
        subst hQ
        exact k_iret hx hb hr hlk hP hK hD hS d_De_faultAt_46
      · rw [if_neg c11] at h
        refine va_gets hx hb z1 hS hown (hts _ lk_467) (fun _ h9 => h9) d_De_faultAt_34 ?_
        refine lv_iload hx hb d_De_faultAt_37 (lv_at hl 0 rfl) ?_
        obtain ⟨hi12, v13, ev13, h⟩ := gr_some h
        refine va_ti (v := .int v13) hx hb z2 hS hi12 (by rw [ev13]) d_De_faultAt_39 ?_
        refine lv_iload_n hx hb d_De_faultAt_40 rfl (lv_at hl 4 rfl) ?_
        refine lv_icmp_le (tgt := 47) hx hb d_De_faultAt_41 (by decide) (fun c14 => ?_) (fun c14 => ?_)
        · rw [if_pos c14] at h
          refine lv_iload_n hx hb d_De_faultAt_47 rfl (lv_at hl 4 rfl) ?_
          refine va_gets hx hb z1 hS hown (hts _ lk_467) (fun _ h9 => h9) d_De_faultAt_48 ?_
          refine lv_iload hx hb d_De_faultAt_51 (lv_at hl 0 rfl) ?_
          obtain ⟨hi15, v16, ev16, h⟩ := gr_some h
          refine va_ti (v := .int v16) hx hb z2 hS hi15 (by rw [ev16]) d_De_faultAt_53 ?_
          refine lv_isub hx hb d_De_faultAt_54 ?_
          refine va_gets hx hb z3 hS hown (hts _ lk_469) (fun _ h9 => h9) d_De_faultAt_55 ?_
          refine lv_iload hx hb d_De_faultAt_58 (lv_at hl 0 rfl) ?_
          obtain ⟨hi17, v18, ev18, h⟩ := gr_some h
          refine va_ti (v := .int v18) hx hb z4 hS hi17 (by rw [ev18]) d_De_faultAt_60 ?_
          refine lv_iadd hx hb d_De_faultAt_61 ?_
          refine lv_istore (lv' := [(5, .int ((a2 - v16) + v18)), (4, .int q8), (0, .ref (ad 13)), (1, .int a0), (2, .int a1), (3, .int a2)]) hx hb d_De_faultAt_62 hl (by decide) rfl (fun ls hl => ?_)
          refine lv_iload hx hb d_De_faultAt_64 (lv_at hl 0 rfl) ?_
          refine lv_bipush (v := 64) hx hb d_De_faultAt_66 (by decide) ?_
          refine lv_icmp_le (tgt := 74) hx hb d_De_faultAt_68 (by decide) (fun c19 => ?_) (fun c19 => ?_)
          · rw [if_pos c19] at h
            refine lv_iload hx hb d_De_faultAt_74 (lv_at hl 1 rfl) ?_
            refine lv_bipush (v := 10) hx hb d_De_faultAt_76 (by decide) ?_
            refine lv_icmp_eq (tgt := 99) hx hb d_De_faultAt_78 (by decide) (fun c20 => ?_) (fun c20 => ?_)
            · rw [if_pos c20] at h
              exact J99 _ _ _ _ _ _ _ _ h hP hD hS (lv_sub hl [2, 3, 4, 1, 0] rfl)
            · rw [if_neg c20] at h
              refine lv_iload hx hb d_De_faultAt_81 (lv_at hl 1 rfl) ?_
              refine lv_bipush (v := 14) hx hb d_De_faultAt_83 (by decide) ?_
              refine lv_icmp_eq (tgt := 99) hx hb d_De_faultAt_85 (by decide) (fun c21 => ?_) (fun c21 => ?_)
              · rw [if_pos c21] at h
                exact J99 _ _ _ _ _ _ _ _ h hP hD hS (lv_sub hl [2, 3, 4, 1, 0] rfl)
              · rw [if_neg c21] at h
                refine lv_iload hx hb d_De_faultAt_88 (lv_at hl 1 rfl) ?_
                refine lv_bipush (v := 18) hx hb d_De_faultAt_90 (by decide) ?_
                refine lv_icmp_eq (tgt := 99) hx hb d_De_faultAt_92 (by decide) (fun c22 => ?_) (fun c22 => ?_)
                · rw [if_pos c22] at h
                  exact J99 _ _ _ _ _ _ _ _ h hP hD hS (lv_sub hl [2, 3, 4, 1, 0] rfl)
                · rw [if_neg c22] at h
                  refine lv_iconst (v := 1) hx hb d_De_faultAt_95 (by decide) ?_
                  refine lv_goto (tgt := 100) hx hb d_De_faultAt_96 (by decide) ?_
                  exact J100 _ _ _ _ _ _ _ _ _ h hP hD hS (lv_sub hl [2, 3, 4, 1, 0] rfl)
          · rw [if_neg c19] at h
            refine lv_bipush (v := 9) hx hb d_De_faultAt_71 (by decide) ?_
            cases h
            subst hQ
            exact k_iret hx hb hr hlk hP hK hD hS d_De_faultAt_73
        · rw [if_neg c14] at h
          refine lv_bipush (v := 8) hx hb d_De_faultAt_44 (by decide) ?_
          cases h
          subst hQ
          exact k_iret hx hb hr hlk hP hK hD hS d_De_faultAt_46
theorem d_De_faultOf_0 : decode b_De_faultOf 0 = .ok (.aload_n 0, 1) := by decide +kernel
theorem d_De_faultOf_1 : decode b_De_faultOf 1 = .ok (.getfield 15, 3) := by decide +kernel
theorem d_De_faultOf_4 : decode b_De_faultOf 4 = .ok (.iload_n 1, 1) := by decide +kernel
theorem d_De_faultOf_5 : decode b_De_faultOf 5 = .ok (.invokevirtual 19, 3) := by decide +kernel
theorem d_De_faultOf_8 : decode b_De_faultOf 8 = .ok (.istore_n 2, 1) := by decide +kernel
theorem d_De_faultOf_9 : decode b_De_faultOf 9 = .ok (.iload_n 2, 1) := by decide +kernel
theorem d_De_faultOf_10 : decode b_De_faultOf 10 = .ok (.sipush 256, 3) := by decide +kernel
theorem d_De_faultOf_13 : decode b_De_faultOf 13 = .ok (.if_icmp .le 6, 3) := by decide +kernel
theorem d_De_faultOf_16 : decode b_De_faultOf 16 = .ok (.bipush 8, 2) := by decide +kernel
theorem d_De_faultOf_18 : decode b_De_faultOf 18 = .ok (.ireturn, 1) := by decide +kernel
theorem d_De_faultOf_19 : decode b_De_faultOf 19 = .ok (.aload_n 0, 1) := by decide +kernel
theorem d_De_faultOf_20 : decode b_De_faultOf 20 = .ok (.getfield 9, 3) := by decide +kernel
theorem d_De_faultOf_23 : decode b_De_faultOf 23 = .ok (.iconst (-1), 1) := by decide +kernel
theorem d_De_faultOf_24 : decode b_De_faultOf 24 = .ok (.invokestatic 25, 3) := by decide +kernel
theorem d_De_faultOf_27 : decode b_De_faultOf 27 = .ok (.aload_n 0, 1) := by decide +kernel
theorem d_De_faultOf_28 : decode b_De_faultOf 28 = .ok (.getfield 9, 3) := by decide +kernel
theorem d_De_faultOf_31 : decode b_De_faultOf 31 = .ok (.iconst 0, 1) := by decide +kernel
theorem d_De_faultOf_32 : decode b_De_faultOf 32 = .ok (.iconst 0, 1) := by decide +kernel
theorem d_De_faultOf_33 : decode b_De_faultOf 33 = .ok (.iastore, 1) := by decide +kernel
theorem d_De_faultOf_34 : decode b_De_faultOf 34 = .ok (.aload_n 0, 1) := by decide +kernel
theorem d_De_faultOf_35 : decode b_De_faultOf 35 = .ok (.getfield 9, 3) := by decide +kernel
theorem d_De_faultOf_38 : decode b_De_faultOf 38 = .ok (.iload_n 2, 1) := by decide +kernel
theorem d_De_faultOf_39 : decode b_De_faultOf 39 = .ok (.iconst 0, 1) := by decide +kernel
theorem d_De_faultOf_40 : decode b_De_faultOf 40 = .ok (.iastore, 1) := by decide +kernel
theorem d_De_faultOf_41 : decode b_De_faultOf 41 = .ok (.iconst 0, 1) := by decide +kernel
theorem d_De_faultOf_42 : decode b_De_faultOf 42 = .ok (.istore_n 3, 1) := by decide +kernel
theorem d_De_faultOf_43 : decode b_De_faultOf 43 = .ok (.iload_n 3, 1) := by decide +kernel
theorem d_De_faultOf_44 : decode b_De_faultOf 44 = .ok (.iload_n 2, 1) := by decide +kernel
theorem d_De_faultOf_45 : decode b_De_faultOf 45 = .ok (.if_icmp .ge 41, 3) := by decide +kernel
theorem d_De_faultOf_48 : decode b_De_faultOf 48 = .ok (.aload_n 0, 1) := by decide +kernel
theorem d_De_faultOf_49 : decode b_De_faultOf 49 = .ok (.getfield 9, 3) := by decide +kernel
theorem d_De_faultOf_52 : decode b_De_faultOf 52 = .ok (.iload_n 3, 1) := by decide +kernel
theorem d_De_faultOf_53 : decode b_De_faultOf 53 = .ok (.iaload, 1) := by decide +kernel
theorem d_De_faultOf_54 : decode b_De_faultOf 54 = .ok (.iconst (-1), 1) := by decide +kernel
theorem d_De_faultOf_55 : decode b_De_faultOf 55 = .ok (.if_icmp .eq 25, 3) := by decide +kernel
theorem d_De_faultOf_58 : decode b_De_faultOf 58 = .ok (.aload_n 0, 1) := by decide +kernel
theorem d_De_faultOf_59 : decode b_De_faultOf 59 = .ok (.iload_n 1, 1) := by decide +kernel
theorem d_De_faultOf_60 : decode b_De_faultOf 60 = .ok (.iload_n 3, 1) := by decide +kernel
theorem d_De_faultOf_61 : decode b_De_faultOf 61 = .ok (.aload_n 0, 1) := by decide +kernel
theorem d_De_faultOf_62 : decode b_De_faultOf 62 = .ok (.getfield 9, 3) := by decide +kernel
theorem d_De_faultOf_65 : decode b_De_faultOf 65 = .ok (.iload_n 3, 1) := by decide +kernel
theorem d_De_faultOf_66 : decode b_De_faultOf 66 = .ok (.iaload, 1) := by decide +kernel
theorem d_De_faultOf_67 : decode b_De_faultOf 67 = .ok (.invokevirtual 31, 3) := by decide +kernel
theorem d_De_faultOf_70 : decode b_De_faultOf 70 = .ok (.istore 4, 2) := by decide +kernel
theorem d_De_faultOf_72 : decode b_De_faultOf 72 = .ok (.iload 4, 2) := by decide +kernel
theorem d_De_faultOf_74 : decode b_De_faultOf 74 = .ok (.ifCond .eq 6, 3) := by decide +kernel
theorem d_De_faultOf_77 : decode b_De_faultOf 77 = .ok (.iload 4, 2) := by decide +kernel
theorem d_De_faultOf_79 : decode b_De_faultOf 79 = .ok (.ireturn, 1) := by decide +kernel
theorem d_De_faultOf_80 : decode b_De_faultOf 80 = .ok (.iinc 3 1, 3) := by decide +kernel
theorem d_De_faultOf_83 : decode b_De_faultOf 83 = .ok (.goto (-40), 3) := by decide +kernel
theorem d_De_faultOf_86 : decode b_De_faultOf 86 = .ok (.iconst 0, 1) := by decide +kernel
theorem d_De_faultOf_87 : decode b_De_faultOf 87 = .ok (.ireturn, 1) := by decide +kernel
def r_De_faultOf_l43 (n : Nat) (ko : T_ko)  : Nat → T_de → Int32 → Int32 → Int32 → Option (Int32 × T_de)
  | 0, _, _, _, _ => none
  | f + 1, de, x1, x2, x3 => if x2 ≤ x3 then some ((0 : Int32), de) else gr (de_depths de) x3 257 (fun v3 => if v3 = (-1 : Int32) then (r_De_faultOf_l43 n ko f) de x1 x2 (x3 + 1) else gr (de_depths de) x3 257 (fun v6 => (r_De_faultAt n ko de x1 x3 v6).bind (fun q7 => if q7.1 = 0 then (r_De_faultOf_l43 n ko f) q7.2 x1 x2 (x3 + 1) else some (q7.1, q7.2))))
def r_De_faultOf (n : Nat) (ko : T_ko) (de : T_de) (a0 : Int32) : Option (Int32 × T_de) := (r_Co_sizeOf n ko a0).bind (fun q9 => if q9 ≤ (256 : Int32) then ga (0 : Int32) 257 (ga q9 257 (r_De_faultOf_l43 n ko n ((de_depths_s (de_depths_s (de_depths_s de (fun _ => (-1 : Int32))) (upd (de_depths (de_depths_s de (fun _ => (-1 : Int32)))) (0 : Int32).toNatClampNeg (0 : Int32))) (upd (de_depths (de_depths_s (de_depths_s de (fun _ => (-1 : Int32))) (upd (de_depths (de_depths_s de (fun _ => (-1 : Int32)))) (0 : Int32).toNatClampNeg (0 : Int32)))) q9.toNatClampNeg (0 : Int32)))) a0 q9 (0 : Int32))) else some ((8 : Int32), de))
def rm_De_faultOf : Jvm.Room := { frames := 4, cells := 0, slots := 0, locals := 96 }
set_option maxHeartbeats 4000000 in
set_option maxRecDepth 100000 in
theorem c_De_faultOf {l : Launch} {D : va_G} {cI cL : ClassId} {ad : Nat → Nat} {ma : T_ma} {ko : T_ko} {sh : T_sh} {lo : T_lo} {de : T_de} {wa : T_wa} {me : T_me} {ru : T_ru} {ws0 : va_W} {sz n : Nat} {a0 : Int32} {r9 : Int32} {de9 : T_de} (hw : ws0 = (wX cI cL ad ma ko sh lo de wa me ru)) (h : r_De_faultOf n ko de a0 = some (r9, de9)) : Met l y_De_faultOf (Cond.code y_De_faultOf b_De_faultOf 5 (some .int) :: TB) rm_De_faultOf (PreW D clX (tyX cI cL) ws0 [.ref (ad 13), .int a0] sz) (PstI D clX (tyX cI cL) ws0 (wX cI cL ad ma ko sh lo (de9) wa me ru) sz r9) 0 0 (va_A ws0 sz) := by
  refine k_met (by decide) (Nat.le_of_ble_eq_true rfl) ?_
  intro p e s m below meth c ls hx hb hr hml hts hown hlk hnm hsz hP hK hD hA hz hl
  have hP : va_P D clX (wX cI cL ad ma ko sh lo de wa me ru) s.heap := by rw [← hw]; exact hP
  have hD : va_D (va_A ws0 sz) (wX cI cL ad ma ko sh lo de wa me ru) := by rw [← hw]; exact hD
  have hS : va_S (va_A ws0 sz) s.heap s.heap [] := va_S.rf
  have hl : lv_has ls 5 [(0, .ref (ad 13)), (1, .int a0)] := hl
  generalize hQ : MQ below (PstI D clX (tyX cI cL) ws0 (wX cI cL ad ma ko sh lo (de9) wa me ru) sz r9) [.ref (ad 13), .int a0].toArray s 0 0 (va_A ws0 sz) = Q
  have L43 : ∀ (f43 : Nat), ∀ (de : T_de) (x1 : Int32) (x2 : Int32) (x3 : Int32) (H : Heap) (locs : List Loc) (ls : Array Slot), r_De_faultOf_l43 n ko f43 de x1 x2 x3 = some (r9, de9) → va_P D clX (wX cI cL ad ma ko sh lo de wa me ru) H → va_D (va_A ws0 sz) (wX cI cL ad ma ko sh lo de wa me ru) → va_S (va_A ws0 sz) s.heap H locs → lv_has ls 5 [(0, .ref (ad 13)), (1, .int x1), (2, .int x2), (3, .int x3)] → W p l e rm_De_faultOf s m [.ref (ad 13), .int a0].toArray below meth c H locs 0 0 Q (F0 m 43 ls []) := by
    intro f43
    induction f43 with
    | zero =>
      intro de x1 x2 x3 H locs ls h hP hD hS hl
      exact absurd h (by intro h; cases h)
    | succ f43 ih43 =>
      intro de x1 x2 x3 H locs ls h hP hD hS hl
      rw [r_De_faultOf_l43] at h
      refine lv_iload_n hx hb d_De_faultOf_43 rfl (lv_at hl 3 rfl) ?_
      refine lv_iload_n hx hb d_De_faultOf_44 rfl (lv_at hl 2 rfl) ?_
      refine lv_icmp_ge (tgt := 86) hx hb d_De_faultOf_45 (by decide) (fun c1 => ?_) (fun c1 => ?_)
      · rw [if_pos c1] at h
        refine lv_iconst (v := 0) hx hb d_De_faultOf_86 (by decide) ?_
        cases h
        subst hQ
        exact k_iret hx hb hr hlk hP hK hD hS d_De_faultOf_87
      · rw [if_neg c1] at h
        refine lv_aload_n hx hb d_De_faultOf_48 rfl (lv_at hl 0 rfl) ?_
        refine rd_De_depths hx hb hts hown hK hP lk_114 d_De_faultOf_49 ?_
        refine lv_iload_n hx hb d_De_faultOf_52 rfl (lv_at hl 3 rfl) ?_
        obtain ⟨hi2, v3, ev3, h⟩ := gr_some h
        refine ld_De_depths hx hb hK hP hi2 ev3 d_De_faultOf_53 ?_
        refine lv_iconst (v := -1) hx hb d_De_faultOf_54 (by decide) ?_
        refine lv_icmp_eq (tgt := 80) hx hb d_De_faultOf_55 (by decide) (fun c4 => ?_) (fun c4 => ?_)
        · rw [if_pos c4] at h
          refine lv_iinc (v := (x3 + 1)) (lv' := [(3, .int (x3 + 1)), (0, .ref (ad 13)), (1, .int x1), (2, .int x2)]) hx hb d_De_faultOf_80 hl (k := 3) rfl rfl (by decide) rfl (fun ls hl => ?_)
          refine lv_goto (tgt := 43) hx hb d_De_faultOf_83 (by decide) ?_
          exact ih43 _ _ _ _ _ _ _ h hP hD hS (lv_sub hl [1, 2, 3, 0] rfl)
        · rw [if_neg c4] at h
          refine lv_aload_n hx hb d_De_faultOf_58 rfl (lv_at hl 0 rfl) ?_
          refine lv_iload_n hx hb d_De_faultOf_59 rfl (lv_at hl 1 rfl) ?_
          refine lv_iload_n hx hb d_De_faultOf_60 rfl (lv_at hl 3 rfl) ?_
          refine lv_aload_n hx hb d_De_faultOf_61 rfl (lv_at hl 0 rfl) ?_
          refine rd_De_depths hx hb hts hown hK hP lk_114 d_De_faultOf_62 ?_
          refine lv_iload_n hx hb d_De_faultOf_65 rfl (lv_at hl 3 rfl) ?_
          obtain ⟨hi5, v6, ev6, h⟩ := gr_some h
          refine ld_De_depths hx hb hK hP hi5 ev6 d_De_faultOf_66 ?_
          obtain ⟨q7, hq7, h⟩ := Option.bind_eq_some_iff.mp h
          refine k_I (k_runV ⟨hx, hb, hml, hown, hts⟩ (c_De_faultAt rfl hq7) ok_De_faultAt is_De_faultAt lk_462 rfl rfl ⟨by decide, by decide⟩ hP hK hD hS hA hz (ci := 4) (q0 := 13) rfl rfl ob_De rfl hl.1 rfl (Nat.le_of_ble_eq_true rfl) d_De_faultOf_67 ⟨Nat.zero_le _, Nat.zero_le _⟩) hD hS hA (fun H locs hP hD hS => ?_)
          refine lv_istore (lv' := [(4, .int q7.1), (0, .ref (ad 13)), (1, .int x1), (2, .int x2), (3, .int x3)]) hx hb d_De_faultOf_70 hl (by decide) rfl (fun ls hl => ?_)
          refine lv_iload hx hb d_De_faultOf_72 (lv_at hl 0 rfl) ?_
          refine lv_if_eq (tgt := 80) hx hb d_De_faultOf_74 (by decide) (fun c8 => ?_) (fun c8 => ?_)
          · rw [if_pos c8] at h
            refine lv_iinc (v := (x3 + 1)) (lv' := [(3, .int (x3 + 1)), (4, .int q7.1), (0, .ref (ad 13)), (1, .int x1), (2, .int x2)]) hx hb d_De_faultOf_80 hl (k := 4) rfl rfl (by decide) rfl (fun ls hl => ?_)
            refine lv_goto (tgt := 43) hx hb d_De_faultOf_83 (by decide) ?_
            exact ih43 _ _ _ _ _ _ _ h hP hD hS (lv_sub hl [2, 3, 4, 0] rfl)
          · rw [if_neg c8] at h
            refine lv_iload hx hb d_De_faultOf_77 (lv_at hl 0 rfl) ?_
            cases h
            subst hQ
            exact k_iret hx hb hr hlk hP hK hD hS d_De_faultOf_79
  unfold r_De_faultOf at h
  refine lv_aload_n hx hb d_De_faultOf_0 rfl (lv_at hl 0 rfl) ?_
  refine rd_De_code hx hb hts hown hK hP lk_113 d_De_faultOf_1 ?_
  refine lv_iload_n hx hb d_De_faultOf_4 rfl (lv_at hl 1 rfl) ?_
  obtain ⟨q9, hq9, h⟩ := Option.bind_eq_some_iff.mp h
  refine k_I (k_runVN ⟨hx, hb, hml, hown, hts⟩ (c_Co_sizeOf rfl hq9) ok_Co_sizeOf is_Co_sizeOf lk_460 rfl rfl ⟨by decide, by decide⟩ hP hK hD hS hA hz (ci := 1) (q0 := 1) rfl rfl ob_Co rfl hl.1 rfl (Nat.le_of_ble_eq_true rfl) d_De_faultOf_5 ⟨Nat.zero_le _, Nat.zero_le _⟩) hD hS hA (fun H locs hP hD hS => ?_)
  refine lv_istore_n (lv' := [(2, .int q9), (0, .ref (ad 13)), (1, .int a0)]) hx hb d_De_faultOf_8 rfl hl (by decide) rfl (fun ls hl => ?_)
  refine lv_iload_n hx hb d_De_faultOf_9 rfl (lv_at hl 0 rfl) ?_
  refine lv_sipush (v := 256) hx hb d_De_faultOf_10 (by decide) ?_
  refine lv_icmp_le (tgt := 19) hx hb d_De_faultOf_13 (by decide) (fun c10 => ?_) (fun c10 => ?_)
  · rw [if_pos c10] at h
    refine lv_aload_n hx hb d_De_faultOf_19 rfl (lv_at hl 1 rfl) ?_
    refine rd_De_depths hx hb hts hown hK hP lk_114 d_De_faultOf_20 ?_
    refine lv_iconst (v := -1) hx hb d_De_faultOf_23 (by decide) ?_
    refine k_V (k_runS ⟨hx, hb, hml, hown, hts⟩ (c_Ar_fillI ar_De_depths (t0 := 0) rfl) ok_Ar_fillI is_Ar_fillI lk_461 rfl rfl ⟨by decide, by decide⟩ hP hK hD hS hA hz rfl hl.1 rfl (Nat.le_of_ble_eq_true rfl) d_De_faultOf_24 ⟨Nat.zero_le _, Nat.zero_le _⟩) hD hS hA (fun H locs hP hD hS => ?_)
    have hP : va_P D clX (wX cI cL ad ma ko sh lo ((de_depths_s de (fun _ => (-1 : Int32)))) wa me ru) H := hP
    have hD : va_D (va_A ws0 sz) (wX cI cL ad ma ko sh lo ((de_depths_s de (fun _ => (-1 : Int32)))) wa me ru) := hD
    refine lv_aload_n hx hb d_De_faultOf_27 rfl (lv_at hl 1 rfl) ?_
    refine rd_De_depths hx hb hts hown hK hP lk_114 d_De_faultOf_28 ?_
    refine lv_iconst (v := 0) hx hb d_De_faultOf_31 (by decide) ?_
    refine lv_iconst (v := 0) hx hb d_De_faultOf_32 (by decide) ?_
    obtain ⟨hi11, h⟩ := ga_some h
    refine st_De_depths hx hb hK hP hD hS hi11 d_De_faultOf_33 (fun H locs hP hD hS => ?_)
    refine lv_aload_n hx hb d_De_faultOf_34 rfl (lv_at hl 1 rfl) ?_
    refine rd_De_depths hx hb hts hown hK hP lk_114 d_De_faultOf_35 ?_
    refine lv_iload_n hx hb d_De_faultOf_38 rfl (lv_at hl 0 rfl) ?_
    refine lv_iconst (v := 0) hx hb d_De_faultOf_39 (by decide) ?_
    obtain ⟨hi12, h⟩ := ga_some h
    refine st_De_depths hx hb hK hP hD hS hi12 d_De_faultOf_40 (fun H locs hP hD hS => ?_)
    refine lv_iconst (v := 0) hx hb d_De_faultOf_41 (by decide) ?_
    refine lv_istore_n (lv' := [(3, .int (0 : Int32)), (2, .int q9), (0, .ref (ad 13)), (1, .int a0)]) hx hb d_De_faultOf_42 rfl hl (by decide) rfl (fun ls hl => ?_)
    exact L43 n _ _ _ _ _ _ _ h hP hD hS (lv_sub hl [2, 3, 1, 0] rfl)
  · rw [if_neg c10] at h
    refine lv_bipush (v := 8) hx hb d_De_faultOf_16 (by decide) ?_
    cases h
    subst hQ
    exact k_iret hx hb hr hlk hP hK hD hS d_De_faultOf_18
