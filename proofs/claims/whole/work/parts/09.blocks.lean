/-! printed by wip/gen/gen3.py: pure functions and contracts of ScanMachine$Blocks -/
theorem d_Bl_isSet_0 : decode b_Bl_isSet 0 = .ok (.aload_n 0, 1) := by decide +kernel
theorem d_Bl_isSet_1 : decode b_Bl_isSet 1 = .ok (.getfield 7, 3) := by decide +kernel
theorem d_Bl_isSet_4 : decode b_Bl_isSet 4 = .ok (.iload_n 1, 1) := by decide +kernel
theorem d_Bl_isSet_5 : decode b_Bl_isSet 5 = .ok (.invokevirtual 13, 3) := by decide +kernel
theorem d_Bl_isSet_8 : decode b_Bl_isSet 8 = .ok (.ifCond .eq 7, 3) := by decide +kernel
theorem d_Bl_isSet_11 : decode b_Bl_isSet 11 = .ok (.iconst 1, 1) := by decide +kernel
theorem d_Bl_isSet_12 : decode b_Bl_isSet 12 = .ok (.goto 4, 3) := by decide +kernel
theorem d_Bl_isSet_15 : decode b_Bl_isSet 15 = .ok (.iconst 0, 1) := by decide +kernel
theorem d_Bl_isSet_16 : decode b_Bl_isSet 16 = .ok (.ireturn, 1) := by decide +kernel
def r_Bl_isSet (n : Nat) (me : T_me) (a0 : Int32) : Option (Int32) := (r_Me_cell n me a0).bind (fun q1 => if q1 = 0 then some ((0 : Int32)) else some ((1 : Int32)))
def rm_Bl_isSet : Jvm.Room := { frames := 1, cells := 0, slots := 0, locals := 21 }
set_option maxHeartbeats 4000000 in
set_option maxRecDepth 100000 in
theorem c_Bl_isSet {l : Launch} {D : va_G} {cI cL : ClassId} {ad : Nat → Nat} {ma : T_ma} {ko : T_ko} {sh : T_sh} {lo : T_lo} {de : T_de} {wa : T_wa} {me : T_me} {ru : T_ru} {ws0 : va_W} {sz n : Nat} {a0 : Int32} {r9 : Int32} (hw : ws0 = (wX cI cL ad ma ko sh lo de wa me ru)) (h : r_Bl_isSet n me a0 = some r9) : Met l y_Bl_isSet (Cond.code y_Bl_isSet b_Bl_isSet 2 (some .boolean) :: TB) rm_Bl_isSet (PreW D clX (tyX cI cL) ws0 [.ref (ad 26), .int a0] sz) (PstI D clX (tyX cI cL) ws0 (wX cI cL ad ma ko sh lo de wa me ru) sz r9) 0 0 (va_A ws0 sz) := by
  refine k_met (by decide) (Nat.le_of_ble_eq_true rfl) ?_
  intro p e s m below meth c ls hx hb hr hml hts hown hlk hnm hsz hP hK hD hA hz hl
  have hP : va_P D clX (wX cI cL ad ma ko sh lo de wa me ru) s.heap := by rw [← hw]; exact hP
  have hD : va_D (va_A ws0 sz) (wX cI cL ad ma ko sh lo de wa me ru) := by rw [← hw]; exact hD
  have hS : va_S (va_A ws0 sz) s.heap s.heap [] := va_S.rf
  have hl : lv_has ls 2 [(0, .ref (ad 26)), (1, .int a0)] := hl
  generalize hQ : MQ below (PstI D clX (tyX cI cL) ws0 (wX cI cL ad ma ko sh lo de wa me ru) sz r9) [.ref (ad 26), .int a0].toArray s 0 0 (va_A ws0 sz) = Q
  unfold r_Bl_isSet at h
  refine lv_aload_n hx hb d_Bl_isSet_0 rfl (lv_at hl 0 rfl) ?_
  refine rd_Bl_memory hx hb hts hown hK hP lk_178 d_Bl_isSet_1 ?_
  refine lv_iload_n hx hb d_Bl_isSet_4 rfl (lv_at hl 1 rfl) ?_
  obtain ⟨q1, hq1, h⟩ := Option.bind_eq_some_iff.mp h
  refine k_I (k_runVN ⟨hx, hb, hml, hown, hts⟩ (c_Me_cell rfl hq1) ok_Me_cell is_Me_cell lk_605 rfl rfl ⟨by decide, by decide⟩ hP hK hD hS hA hz (ci := 6) (q0 := 19) rfl rfl ob_Me rfl hl.1 rfl (Nat.le_of_ble_eq_true rfl) d_Bl_isSet_5 ⟨Nat.zero_le _, Nat.zero_le _⟩) hD hS hA (fun H locs hP hD hS => ?_)
  refine lv_if_eq (tgt := 15) hx hb d_Bl_isSet_8 (by decide) (fun c2 => ?_) (fun c2 => ?_)
  · rw [if_pos c2] at h
    refine lv_iconst (v := 0) hx hb d_Bl_isSet_15 (by decide) ?_
    cases h
    subst hQ
    exact k_zret hx hb hr hlk (Or.inl rfl) hP hK hD hS d_Bl_isSet_16
  · rw [if_neg c2] at h
    refine lv_iconst (v := 1) hx hb d_Bl_isSet_11 (by decide) ?_
    refine lv_goto (tgt := 16) hx hb d_Bl_isSet_12 (by decide) ?_
    cases h
    subst hQ
    exact k_zret hx hb hr hlk (Or.inr rfl) hP hK hD hS d_Bl_isSet_16
theorem d_Bl_putFlag_0 : decode b_Bl_putFlag 0 = .ok (.aload_n 0, 1) := by decide +kernel
theorem d_Bl_putFlag_1 : decode b_Bl_putFlag 1 = .ok (.getfield 7, 3) := by decide +kernel
theorem d_Bl_putFlag_4 : decode b_Bl_putFlag 4 = .ok (.iload_n 1, 1) := by decide +kernel
theorem d_Bl_putFlag_5 : decode b_Bl_putFlag 5 = .ok (.iload_n 2, 1) := by decide +kernel
theorem d_Bl_putFlag_6 : decode b_Bl_putFlag 6 = .ok (.ifCond .eq 7, 3) := by decide +kernel
theorem d_Bl_putFlag_9 : decode b_Bl_putFlag 9 = .ok (.iconst 1, 1) := by decide +kernel
theorem d_Bl_putFlag_10 : decode b_Bl_putFlag 10 = .ok (.goto 4, 3) := by decide +kernel
theorem d_Bl_putFlag_13 : decode b_Bl_putFlag 13 = .ok (.iconst 0, 1) := by decide +kernel
theorem d_Bl_putFlag_14 : decode b_Bl_putFlag 14 = .ok (.invokevirtual 27, 3) := by decide +kernel
theorem d_Bl_putFlag_17 : decode b_Bl_putFlag 17 = .ok (.return_, 1) := by decide +kernel
def r_Bl_putFlag (n : Nat) (me : T_me) (a0 : Int32) (a1 : Int32) : Option (T_me) := if a1 = 0 then (r_Me_change n me a0 (0 : Int32)).bind (fun q2 => some (q2)) else (r_Me_change n me a0 (1 : Int32)).bind (fun q3 => some (q3))
def rm_Bl_putFlag : Jvm.Room := { frames := 1, cells := 0, slots := 0, locals := 22 }
set_option maxHeartbeats 4000000 in
set_option maxRecDepth 100000 in
theorem c_Bl_putFlag {l : Launch} {D : va_G} {cI cL : ClassId} {ad : Nat → Nat} {ma : T_ma} {ko : T_ko} {sh : T_sh} {lo : T_lo} {de : T_de} {wa : T_wa} {me : T_me} {ru : T_ru} {ws0 : va_W} {sz n : Nat} {a0 : Int32} {a1 : Int32} {me9 : T_me} (hw : ws0 = (wX cI cL ad ma ko sh lo de wa me ru)) (h : r_Bl_putFlag n me a0 a1 = some me9) : Met l y_Bl_putFlag (Cond.code y_Bl_putFlag b_Bl_putFlag 3 none :: TB) rm_Bl_putFlag (PreW D clX (tyX cI cL) ws0 [.ref (ad 26), .int a0, .int a1] sz) (PstV D clX (tyX cI cL) ws0 (wX cI cL ad ma ko sh lo de wa (me9) ru) sz) 0 0 (va_A ws0 sz) := by
  refine k_met (by decide) (Nat.le_of_ble_eq_true rfl) ?_
  intro p e s m below meth c ls hx hb hr hml hts hown hlk hnm hsz hP hK hD hA hz hl
  have hP : va_P D clX (wX cI cL ad ma ko sh lo de wa me ru) s.heap := by rw [← hw]; exact hP
  have hD : va_D (va_A ws0 sz) (wX cI cL ad ma ko sh lo de wa me ru) := by rw [← hw]; exact hD
  have hS : va_S (va_A ws0 sz) s.heap s.heap [] := va_S.rf
  have hl : lv_has ls 3 [(0, .ref (ad 26)), (1, .int a0), (2, .int a1)] := hl
  generalize hQ : MQ below (PstV D clX (tyX cI cL) ws0 (wX cI cL ad ma ko sh lo de wa (me9) ru) sz) [.ref (ad 26), .int a0, .int a1].toArray s 0 0 (va_A ws0 sz) = Q
  unfold r_Bl_putFlag at h
  refine lv_aload_n hx hb d_Bl_putFlag_0 rfl (lv_at hl 0 rfl) ?_
  refine rd_Bl_memory hx hb hts hown hK hP lk_178 d_Bl_putFlag_1 ?_
  refine lv_iload_n hx hb d_Bl_putFlag_4 rfl (lv_at hl 1 rfl) ?_
  refine lv_iload_n hx hb d_Bl_putFlag_5 rfl (lv_at hl 2 rfl) ?_
  refine lv_if_eq (tgt := 13) hx hb d_Bl_putFlag_6 (by decide) (fun c1 => ?_) (fun c1 => ?_)
  · rw [if_pos c1] at h
    refine lv_iconst (v := 0) hx hb d_Bl_putFlag_13 (by decide) ?_
    obtain ⟨q2, hq2, h⟩ := Option.bind_eq_some_iff.mp h
    refine k_V (k_runVN ⟨hx, hb, hml, hown, hts⟩ (c_Me_change rfl hq2) ok_Me_change is_Me_change lk_618 rfl rfl ⟨by decide, by decide⟩ hP hK hD hS hA hz (ci := 6) (q0 := 19) rfl rfl ob_Me rfl hl.1 rfl (Nat.le_of_ble_eq_true rfl) d_Bl_putFlag_14 ⟨Nat.zero_le _, Nat.zero_le _⟩) hD hS hA (fun H locs hP hD hS => ?_)
    cases h
    subst hQ
    exact k_vret hx hb hr hlk hP hK hD hS d_Bl_putFlag_17
  · rw [if_neg c1] at h
    refine lv_iconst (v := 1) hx hb d_Bl_putFlag_9 (by decide) ?_
    refine lv_goto (tgt := 14) hx hb d_Bl_putFlag_10 (by decide) ?_
    obtain ⟨q3, hq3, h⟩ := Option.bind_eq_some_iff.mp h
    refine k_V (k_runVN ⟨hx, hb, hml, hown, hts⟩ (c_Me_change rfl hq3) ok_Me_change is_Me_change lk_618 rfl rfl ⟨by decide, by decide⟩ hP hK hD hS hA hz (ci := 6) (q0 := 19) rfl rfl ob_Me rfl hl.1 rfl (Nat.le_of_ble_eq_true rfl) d_Bl_putFlag_14 ⟨Nat.zero_le _, Nat.zero_le _⟩) hD hS hA (fun H locs hP hD hS => ?_)
    cases h
    subst hQ
    exact k_vret hx hb hr hlk hP hK hD hS d_Bl_putFlag_17
theorem d_Bl_runOffDelay_0 : decode b_Bl_runOffDelay 0 = .ok (.iload_n 2, 1) := by decide +kernel
theorem d_Bl_runOffDelay_1 : decode b_Bl_runOffDelay 1 = .ok (.ifCond .ne 7, 3) := by decide +kernel
theorem d_Bl_runOffDelay_4 : decode b_Bl_runOffDelay 4 = .ok (.iload_n 3, 1) := by decide +kernel
theorem d_Bl_runOffDelay_5 : decode b_Bl_runOffDelay 5 = .ok (.ifCond .eq 38, 3) := by decide +kernel
theorem d_Bl_runOffDelay_8 : decode b_Bl_runOffDelay 8 = .ok (.aload_n 0, 1) := by decide +kernel
theorem d_Bl_runOffDelay_9 : decode b_Bl_runOffDelay 9 = .ok (.getfield 7, 3) := by decide +kernel
theorem d_Bl_runOffDelay_12 : decode b_Bl_runOffDelay 12 = .ok (.iload_n 1, 1) := by decide +kernel
theorem d_Bl_runOffDelay_13 : decode b_Bl_runOffDelay 13 = .ok (.iconst 3, 1) := by decide +kernel
theorem d_Bl_runOffDelay_14 : decode b_Bl_runOffDelay 14 = .ok (.iadd, 1) := by decide +kernel
theorem d_Bl_runOffDelay_15 : decode b_Bl_runOffDelay 15 = .ok (.iconst 0, 1) := by decide +kernel
theorem d_Bl_runOffDelay_16 : decode b_Bl_runOffDelay 16 = .ok (.invokevirtual 27, 3) := by decide +kernel
theorem d_Bl_runOffDelay_19 : decode b_Bl_runOffDelay 19 = .ok (.aload_n 0, 1) := by decide +kernel
theorem d_Bl_runOffDelay_20 : decode b_Bl_runOffDelay 20 = .ok (.iload_n 1, 1) := by decide +kernel
theorem d_Bl_runOffDelay_21 : decode b_Bl_runOffDelay 21 = .ok (.iconst 2, 1) := by decide +kernel
theorem d_Bl_runOffDelay_22 : decode b_Bl_runOffDelay 22 = .ok (.iadd, 1) := by decide +kernel
theorem d_Bl_runOffDelay_23 : decode b_Bl_runOffDelay 23 = .ok (.iload_n 2, 1) := by decide +kernel
theorem d_Bl_runOffDelay_24 : decode b_Bl_runOffDelay 24 = .ok (.ifCond .ne 8, 3) := by decide +kernel
theorem d_Bl_runOffDelay_27 : decode b_Bl_runOffDelay 27 = .ok (.iload 4, 2) := by decide +kernel
theorem d_Bl_runOffDelay_29 : decode b_Bl_runOffDelay 29 = .ok (.ifCond .le 7, 3) := by decide +kernel
theorem d_Bl_runOffDelay_32 : decode b_Bl_runOffDelay 32 = .ok (.iconst 1, 1) := by decide +kernel
theorem d_Bl_runOffDelay_33 : decode b_Bl_runOffDelay 33 = .ok (.goto 4, 3) := by decide +kernel
theorem d_Bl_runOffDelay_36 : decode b_Bl_runOffDelay 36 = .ok (.iconst 0, 1) := by decide +kernel
theorem d_Bl_runOffDelay_37 : decode b_Bl_runOffDelay 37 = .ok (.invokevirtual 23, 3) := by decide +kernel
theorem d_Bl_runOffDelay_40 : decode b_Bl_runOffDelay 40 = .ok (.goto 44, 3) := by decide +kernel
theorem d_Bl_runOffDelay_43 : decode b_Bl_runOffDelay 43 = .ok (.aload_n 0, 1) := by decide +kernel
theorem d_Bl_runOffDelay_44 : decode b_Bl_runOffDelay 44 = .ok (.iload_n 1, 1) := by decide +kernel
theorem d_Bl_runOffDelay_45 : decode b_Bl_runOffDelay 45 = .ok (.iconst 2, 1) := by decide +kernel
theorem d_Bl_runOffDelay_46 : decode b_Bl_runOffDelay 46 = .ok (.iadd, 1) := by decide +kernel
theorem d_Bl_runOffDelay_47 : decode b_Bl_runOffDelay 47 = .ok (.invokevirtual 31, 3) := by decide +kernel
theorem d_Bl_runOffDelay_50 : decode b_Bl_runOffDelay 50 = .ok (.ifCond .eq 34, 3) := by decide +kernel
theorem d_Bl_runOffDelay_53 : decode b_Bl_runOffDelay 53 = .ok (.aload_n 0, 1) := by decide +kernel
theorem d_Bl_runOffDelay_54 : decode b_Bl_runOffDelay 54 = .ok (.getfield 7, 3) := by decide +kernel
theorem d_Bl_runOffDelay_57 : decode b_Bl_runOffDelay 57 = .ok (.iload_n 1, 1) := by decide +kernel
theorem d_Bl_runOffDelay_58 : decode b_Bl_runOffDelay 58 = .ok (.iconst 3, 1) := by decide +kernel
theorem d_Bl_runOffDelay_59 : decode b_Bl_runOffDelay 59 = .ok (.iadd, 1) := by decide +kernel
theorem d_Bl_runOffDelay_60 : decode b_Bl_runOffDelay 60 = .ok (.iload 5, 2) := by decide +kernel
theorem d_Bl_runOffDelay_62 : decode b_Bl_runOffDelay 62 = .ok (.invokevirtual 27, 3) := by decide +kernel
theorem d_Bl_runOffDelay_65 : decode b_Bl_runOffDelay 65 = .ok (.aload_n 0, 1) := by decide +kernel
theorem d_Bl_runOffDelay_66 : decode b_Bl_runOffDelay 66 = .ok (.iload_n 1, 1) := by decide +kernel
theorem d_Bl_runOffDelay_67 : decode b_Bl_runOffDelay 67 = .ok (.iconst 2, 1) := by decide +kernel
theorem d_Bl_runOffDelay_68 : decode b_Bl_runOffDelay 68 = .ok (.iadd, 1) := by decide +kernel
theorem d_Bl_runOffDelay_69 : decode b_Bl_runOffDelay 69 = .ok (.iload 5, 2) := by decide +kernel
theorem d_Bl_runOffDelay_71 : decode b_Bl_runOffDelay 71 = .ok (.iload 4, 2) := by decide +kernel
theorem d_Bl_runOffDelay_73 : decode b_Bl_runOffDelay 73 = .ok (.if_icmp .ge 7, 3) := by decide +kernel
theorem d_Bl_runOffDelay_76 : decode b_Bl_runOffDelay 76 = .ok (.iconst 1, 1) := by decide +kernel
theorem d_Bl_runOffDelay_77 : decode b_Bl_runOffDelay 77 = .ok (.goto 4, 3) := by decide +kernel
theorem d_Bl_runOffDelay_80 : decode b_Bl_runOffDelay 80 = .ok (.iconst 0, 1) := by decide +kernel
theorem d_Bl_runOffDelay_81 : decode b_Bl_runOffDelay 81 = .ok (.invokevirtual 23, 3) := by decide +kernel
theorem d_Bl_runOffDelay_84 : decode b_Bl_runOffDelay 84 = .ok (.return_, 1) := by decide +kernel
def r_Bl_runOffDelay_j8 (n : Nat)   (me : T_me) (x1 : Int32) (x2 : Int32) (x4 : Int32) : Option (T_me) := (r_Me_change n me (x1 + (3 : Int32)) (0 : Int32)).bind (fun q1 => if x2 = 0 then if x4 ≤ 0 then (r_Bl_putFlag n q1 (x1 + (2 : Int32)) (0 : Int32)).bind (fun q5 => some (q5)) else (r_Bl_putFlag n q1 (x1 + (2 : Int32)) (1 : Int32)).bind (fun q6 => some (q6)) else (r_Bl_putFlag n q1 (x1 + (2 : Int32)) (1 : Int32)).bind (fun q3 => some (q3)))
def r_Bl_runOffDelay (n : Nat) (me : T_me) (a0 : Int32) (a1 : Int32) (a2 : Int32) (a3 : Int32) (a4 : Int32) : Option (T_me) := if a1 = 0 then if a2 = 0 then (r_Bl_isSet n me (a0 + (2 : Int32))).bind (fun q9 => if q9 = 0 then some (me) else (r_Me_change n me (a0 + (3 : Int32)) a4).bind (fun q11 => if a3 ≤ a4 then (r_Bl_putFlag n q11 (a0 + (2 : Int32)) (0 : Int32)).bind (fun q13 => some (q13)) else (r_Bl_putFlag n q11 (a0 + (2 : Int32)) (1 : Int32)).bind (fun q14 => some (q14)))) else r_Bl_runOffDelay_j8 n me a0 a1 a3 else r_Bl_runOffDelay_j8 n me a0 a1 a3
def rm_Bl_runOffDelay : Jvm.Room := { frames := 2, cells := 0, slots := 0, locals := 44 }
set_option maxHeartbeats 4000000 in
set_option maxRecDepth 100000 in
theorem c_Bl_runOffDelay {l : Launch} {D : va_G} {cI cL : ClassId} {ad : Nat → Nat} {ma : T_ma} {ko : T_ko} {sh : T_sh} {lo : T_lo} {de : T_de} {wa : T_wa} {me : T_me} {ru : T_ru} {ws0 : va_W} {sz n : Nat} {a0 : Int32} {a1 : Int32} {a2 : Int32} {a3 : Int32} {a4 : Int32} {me9 : T_me} (hw : ws0 = (wX cI cL ad ma ko sh lo de wa me ru)) (h : r_Bl_runOffDelay n me a0 a1 a2 a3 a4 = some me9) : Met l y_Bl_runOffDelay (Cond.code y_Bl_runOffDelay b_Bl_runOffDelay 6 none :: TB) rm_Bl_runOffDelay (PreW D clX (tyX cI cL) ws0 [.ref (ad 26), .int a0, .int a1, .int a2, .int a3, .int a4] sz) (PstV D clX (tyX cI cL) ws0 (wX cI cL ad ma ko sh lo de wa (me9) ru) sz) 0 0 (va_A ws0 sz) := by
  refine k_met (by decide) (Nat.le_of_ble_eq_true rfl) ?_
  intro p e s m below meth c ls hx hb hr hml hts hown hlk hnm hsz hP hK hD hA hz hl
  have hP : va_P D clX (wX cI cL ad ma ko sh lo de wa me ru) s.heap := by rw [← hw]; exact hP
  have hD : va_D (va_A ws0 sz) (wX cI cL ad ma ko sh lo de wa me ru) := by rw [← hw]; exact hD
  have hS : va_S (va_A ws0 sz) s.heap s.heap [] := va_S.rf
  have hl : lv_has ls 6 [(0, .ref (ad 26)), (1, .int a0), (2, .int a1), (3, .int a2), (4, .int a3), (5, .int a4)] := hl
  generalize hQ : MQ below (PstV D clX (tyX cI cL) ws0 (wX cI cL ad ma ko sh lo de wa (me9) ru) sz) [.ref (ad 26), .int a0, .int a1, .int a2, .int a3, .int a4].toArray s 0 0 (va_A ws0 sz) = Q
  have J8 : ∀ (me : T_me) (x1 : Int32) (x2 : Int32) (x4 : Int32) (H : Heap) (locs : List Loc) (ls : Array Slot), r_Bl_runOffDelay_j8 n me x1 x2 x4 = some me9 → va_P D clX (wX cI cL ad ma ko sh lo de wa me ru) H → va_D (va_A ws0 sz) (wX cI cL ad ma ko sh lo de wa me ru) → va_S (va_A ws0 sz) s.heap H locs → lv_has ls 6 [(0, .ref (ad 26)), (1, .int x1), (2, .int x2), (4, .int x4)] → W p l e rm_Bl_runOffDelay s m [.ref (ad 26), .int a0, .int a1, .int a2, .int a3, .int a4].toArray below meth c H locs 0 0 Q (F0 m 8 ls []) := by
    intro me x1 x2 x4 H locs ls h hP hD hS hl
    unfold r_Bl_runOffDelay_j8 at h
    refine lv_aload_n hx hb d_Bl_runOffDelay_8 rfl (lv_at hl 0 rfl) ?_
    refine rd_Bl_memory hx hb hts hown hK hP lk_178 d_Bl_runOffDelay_9 ?_
    refine lv_iload_n hx hb d_Bl_runOffDelay_12 rfl (lv_at hl 1 rfl) ?_
    refine lv_iconst (v := 3) hx hb d_Bl_runOffDelay_13 (by decide) ?_
    refine lv_iadd hx hb d_Bl_runOffDelay_14 ?_
    refine lv_iconst (v := 0) hx hb d_Bl_runOffDelay_15 (by decide) ?_
    obtain ⟨q1, hq1, h⟩ := Option.bind_eq_some_iff.mp h
    refine k_V (k_runVN ⟨hx, hb, hml, hown, hts⟩ (c_Me_change rfl hq1) ok_Me_change is_Me_change lk_618 rfl rfl ⟨by decide, by decide⟩ hP hK hD hS hA hz (ci := 6) (q0 := 19) rfl rfl ob_Me rfl hl.1 rfl (Nat.le_of_ble_eq_true rfl) d_Bl_runOffDelay_16 ⟨Nat.zero_le _, Nat.zero_le _⟩) hD hS hA (fun H locs hP hD hS => ?_)
    refine lv_aload_n hx hb d_Bl_runOffDelay_19 rfl (lv_at hl 0 rfl) ?_
    refine lv_iload_n hx hb d_Bl_runOffDelay_20 rfl (lv_at hl 1 rfl) ?_
    refine lv_iconst (v := 2) hx hb d_Bl_runOffDelay_21 (by decide) ?_
    refine lv_iadd hx hb d_Bl_runOffDelay_22 ?_
    refine lv_iload_n hx hb d_Bl_runOffDelay_23 rfl (lv_at hl 2 rfl) ?_
    refine lv_if_ne (tgt := 32) hx hb d_Bl_runOffDelay_24 (by decide) (fun c2 => ?_) (fun c2 => ?_)
    · rw [if_neg c2] at h
      refine lv_iconst (v := 1) hx hb d_Bl_runOffDelay_32 (by decide) ?_
      refine lv_goto (tgt := 37) hx hb d_Bl_runOffDelay_33 (by decide) ?_
      obtain ⟨q3, hq3, h⟩ := Option.bind_eq_some_iff.mp h
      refine k_V (k_runV ⟨hx, hb, hml, hown, hts⟩ (c_Bl_putFlag rfl hq3) ok_Bl_putFlag is_Bl_putFlag lk_619 rfl rfl ⟨by decide, by decide⟩ hP hK hD hS hA hz (ci := 8) (q0 := 26) rfl rfl ob_Bl rfl hl.1 rfl (Nat.le_of_ble_eq_true rfl) d_Bl_runOffDelay_37 ⟨Nat.zero_le _, Nat.zero_le _⟩) hD hS hA (fun H locs hP hD hS => ?_)
      refine lv_goto (tgt := 84) hx hb d_Bl_runOffDelay_40 (by decide) ?_
      cases h
      subst hQ
      exact k_vret hx hb hr hlk hP hK hD hS d_Bl_runOffDelay_84
    · rw [if_pos c2] at h
      refine lv_iload hx hb d_Bl_runOffDelay_27 (lv_at hl 3 rfl) ?_
      refine lv_if_le (tgt := 36) hx hb d_Bl_runOffDelay_29 (by decide) (fun c4 => ?_) (fun c4 => ?_)
      · rw [if_pos c4] at h
        refine lv_iconst (v := 0) hx hb d_Bl_runOffDelay_36 (by decide) ?_
        obtain ⟨q5, hq5, h⟩ := Option.bind_eq_some_iff.mp h
        refine k_V (k_runV ⟨hx, hb, hml, hown, hts⟩ (c_Bl_putFlag rfl hq5) ok_Bl_putFlag is_Bl_putFlag lk_619 rfl rfl ⟨by decide, by decide⟩ hP hK hD hS hA hz (ci := 8) (q0 := 26) rfl rfl ob_Bl rfl hl.1 rfl (Nat.le_of_ble_eq_true rfl) d_Bl_runOffDelay_37 ⟨Nat.zero_le _, Nat.zero_le _⟩) hD hS hA (fun H locs hP hD hS => ?_)
        refine lv_goto (tgt := 84) hx hb d_Bl_runOffDelay_40 (by decide) ?_
        cases h
        subst hQ
        exact k_vret hx hb hr hlk hP hK hD hS d_Bl_runOffDelay_84
      · rw [if_neg c4] at h
        refine lv_iconst (v := 1) hx hb d_Bl_runOffDelay_32 (by decide) ?_
        refine lv_goto (tgt := 37) hx hb d_Bl_runOffDelay_33 (by decide) ?_
        obtain ⟨q6, hq6, h⟩ := Option.bind_eq_some_iff.mp h
        refine k_V (k_runV ⟨hx, hb, hml, hown, hts⟩ (c_Bl_putFlag rfl hq6) ok_Bl_putFlag is_Bl_putFlag lk_619 rfl rfl ⟨by decide, by decide⟩ hP hK hD hS hA hz (ci := 8) (q0 := 26) rfl rfl ob_Bl rfl hl.1 rfl (Nat.le_of_ble_eq_true rfl) d_Bl_runOffDelay_37 ⟨Nat.zero_le _, Nat.zero_le _⟩) hD hS hA (fun H locs hP hD hS => ?_)
        refine lv_goto (tgt := 84) hx hb d_Bl_runOffDelay_40 (by decide) ?_
        cases h
        subst hQ
        exact k_vret hx hb hr hlk hP hK hD hS d_Bl_runOffDelay_84
  unfold r_Bl_runOffDelay at h
  refine lv_iload_n hx hb d_Bl_runOffDelay_0 rfl (lv_at hl 2 rfl) ?_
  refine lv_if_ne (tgt := 8) hx hb d_Bl_runOffDelay_1 (by decide) (fun c7 => ?_) (fun c7 => ?_)
  · rw [if_neg c7] at h
    exact J8 _ _ _ _ _ _ _ h hP hD hS (lv_sub hl [0, 1, 2, 4] rfl)
  · rw [if_pos c7] at h
    refine lv_iload_n hx hb d_Bl_runOffDelay_4 rfl (lv_at hl 3 rfl) ?_
    refine lv_if_eq (tgt := 43) hx hb d_Bl_runOffDelay_5 (by decide) (fun c8 => ?_) (fun c8 => ?_)
    · rw [if_pos c8] at h
      refine lv_aload_n hx hb d_Bl_runOffDelay_43 rfl (lv_at hl 0 rfl) ?_
      refine lv_iload_n hx hb d_Bl_runOffDelay_44 rfl (lv_at hl 1 rfl) ?_
      refine lv_iconst (v := 2) hx hb d_Bl_runOffDelay_45 (by decide) ?_
      refine lv_iadd hx hb d_Bl_runOffDelay_46 ?_
      obtain ⟨q9, hq9, h⟩ := Option.bind_eq_some_iff.mp h
      refine k_I (k_runV ⟨hx, hb, hml, hown, hts⟩ (c_Bl_isSet rfl hq9) ok_Bl_isSet is_Bl_isSet lk_611 rfl rfl ⟨by decide, by decide⟩ hP hK hD hS hA hz (ci := 8) (q0 := 26) rfl rfl ob_Bl rfl hl.1 rfl (Nat.le_of_ble_eq_true rfl) d_Bl_runOffDelay_47 ⟨Nat.zero_le _, Nat.zero_le _⟩) hD hS hA (fun H locs hP hD hS => ?_)
      refine lv_if_eq (tgt := 84) hx hb d_Bl_runOffDelay_50 (by decide) (fun c10 => ?_) (fun c10 => ?_)
      · rw [if_pos c10] at h
        cases h
        subst hQ
        exact k_vret hx hb hr hlk hP hK hD hS d_Bl_runOffDelay_84
      · rw [if_neg c10] at h
        refine lv_aload_n hx hb d_Bl_runOffDelay_53 rfl (lv_at hl 0 rfl) ?_
        refine rd_Bl_memory hx hb hts hown hK hP lk_178 d_Bl_runOffDelay_54 ?_
        refine lv_iload_n hx hb d_Bl_runOffDelay_57 rfl (lv_at hl 1 rfl) ?_
        refine lv_iconst (v := 3) hx hb d_Bl_runOffDelay_58 (by decide) ?_
        refine lv_iadd hx hb d_Bl_runOffDelay_59 ?_
        refine lv_iload hx hb d_Bl_runOffDelay_60 (lv_at hl 5 rfl) ?_
        obtain ⟨q11, hq11, h⟩ := Option.bind_eq_some_iff.mp h
        refine k_V (k_runVN ⟨hx, hb, hml, hown, hts⟩ (c_Me_change rfl hq11) ok_Me_change is_Me_change lk_618 rfl rfl ⟨by decide, by decide⟩ hP hK hD hS hA hz (ci := 6) (q0 := 19) rfl rfl ob_Me rfl hl.1 rfl (Nat.le_of_ble_eq_true rfl) d_Bl_runOffDelay_62 ⟨Nat.zero_le _, Nat.zero_le _⟩) hD hS hA (fun H locs hP hD hS => ?_)
        refine lv_aload_n hx hb d_Bl_runOffDelay_65 rfl (lv_at hl 0 rfl) ?_
        refine lv_iload_n hx hb d_Bl_runOffDelay_66 rfl (lv_at hl 1 rfl) ?_
        refine lv_iconst (v := 2) hx hb d_Bl_runOffDelay_67 (by decide) ?_
        refine lv_iadd hx hb d_Bl_runOffDelay_68 ?_
        refine lv_iload hx hb d_Bl_runOffDelay_69 (lv_at hl 5 rfl) ?_
        refine lv_iload hx hb d_Bl_runOffDelay_71 (lv_at hl 4 rfl) ?_
        refine lv_icmp_ge (tgt := 80) hx hb d_Bl_runOffDelay_73 (by decide) (fun c12 => ?_) (fun c12 => ?_)
        · rw [if_pos c12] at h
          refine lv_iconst (v := 0) hx hb d_Bl_runOffDelay_80 (by decide) ?_
          obtain ⟨q13, hq13, h⟩ := Option.bind_eq_some_iff.mp h
          refine k_V (k_runV ⟨hx, hb, hml, hown, hts⟩ (c_Bl_putFlag rfl hq13) ok_Bl_putFlag is_Bl_putFlag lk_619 rfl rfl ⟨by decide, by decide⟩ hP hK hD hS hA hz (ci := 8) (q0 := 26) rfl rfl ob_Bl rfl hl.1 rfl (Nat.le_of_ble_eq_true rfl) d_Bl_runOffDelay_81 ⟨Nat.zero_le _, Nat.zero_le _⟩) hD hS hA (fun H locs hP hD hS => ?_)
          cases h
          subst hQ
          exact k_vret hx hb hr hlk hP hK hD hS d_Bl_runOffDelay_84
        · rw [if_neg c12] at h
          refine lv_iconst (v := 1) hx hb d_Bl_runOffDelay_76 (by decide) ?_
          refine lv_goto (tgt := 81) hx hb d_Bl_runOffDelay_77 (by decide) ?_
          obtain ⟨q14, hq14, h⟩ := Option.bind_eq_some_iff.mp h
          refine k_V (k_runV ⟨hx, hb, hml, hown, hts⟩ (c_Bl_putFlag rfl hq14) ok_Bl_putFlag is_Bl_putFlag lk_619 rfl rfl ⟨by decide, by decide⟩ hP hK hD hS hA hz (ci := 8) (q0 := 26) rfl rfl ob_Bl rfl hl.1 rfl (Nat.le_of_ble_eq_true rfl) d_Bl_runOffDelay_81 ⟨Nat.zero_le _, Nat.zero_le _⟩) hD hS hA (fun H locs hP hD hS => ?_)
          cases h
          subst hQ
          exact k_vret hx hb hr hlk hP hK hD hS d_Bl_runOffDelay_84
    · rw [if_neg c8] at h
      exact J8 _ _ _ _ _ _ _ h hP hD hS (lv_sub hl [0, 1, 2, 4] rfl)
theorem d_Bl_runPulse_0 : decode b_Bl_runPulse 0 = .ok (.aload_n 0, 1) := by decide +kernel
theorem d_Bl_runPulse_1 : decode b_Bl_runPulse 1 = .ok (.iload_n 1, 1) := by decide +kernel
theorem d_Bl_runPulse_2 : decode b_Bl_runPulse 2 = .ok (.iconst 2, 1) := by decide +kernel
theorem d_Bl_runPulse_3 : decode b_Bl_runPulse 3 = .ok (.iadd, 1) := by decide +kernel
theorem d_Bl_runPulse_4 : decode b_Bl_runPulse 4 = .ok (.invokevirtual 31, 3) := by decide +kernel
theorem d_Bl_runPulse_7 : decode b_Bl_runPulse 7 = .ok (.ifCond .eq 33, 3) := by decide +kernel
theorem d_Bl_runPulse_10 : decode b_Bl_runPulse 10 = .ok (.aload_n 0, 1) := by decide +kernel
theorem d_Bl_runPulse_11 : decode b_Bl_runPulse 11 = .ok (.getfield 7, 3) := by decide +kernel
theorem d_Bl_runPulse_14 : decode b_Bl_runPulse 14 = .ok (.iload_n 1, 1) := by decide +kernel
theorem d_Bl_runPulse_15 : decode b_Bl_runPulse 15 = .ok (.iconst 3, 1) := by decide +kernel
theorem d_Bl_runPulse_16 : decode b_Bl_runPulse 16 = .ok (.iadd, 1) := by decide +kernel
theorem d_Bl_runPulse_17 : decode b_Bl_runPulse 17 = .ok (.iload 5, 2) := by decide +kernel
theorem d_Bl_runPulse_19 : decode b_Bl_runPulse 19 = .ok (.invokevirtual 27, 3) := by decide +kernel
theorem d_Bl_runPulse_22 : decode b_Bl_runPulse 22 = .ok (.iload 5, 2) := by decide +kernel
theorem d_Bl_runPulse_24 : decode b_Bl_runPulse 24 = .ok (.iload 4, 2) := by decide +kernel
theorem d_Bl_runPulse_26 : decode b_Bl_runPulse 26 = .ok (.if_icmp .lt 14, 3) := by decide +kernel
theorem d_Bl_runPulse_29 : decode b_Bl_runPulse 29 = .ok (.aload_n 0, 1) := by decide +kernel
theorem d_Bl_runPulse_30 : decode b_Bl_runPulse 30 = .ok (.getfield 7, 3) := by decide +kernel
theorem d_Bl_runPulse_33 : decode b_Bl_runPulse 33 = .ok (.iload_n 1, 1) := by decide +kernel
theorem d_Bl_runPulse_34 : decode b_Bl_runPulse 34 = .ok (.iconst 2, 1) := by decide +kernel
theorem d_Bl_runPulse_35 : decode b_Bl_runPulse 35 = .ok (.iadd, 1) := by decide +kernel
theorem d_Bl_runPulse_36 : decode b_Bl_runPulse 36 = .ok (.iconst 0, 1) := by decide +kernel
theorem d_Bl_runPulse_37 : decode b_Bl_runPulse 37 = .ok (.invokevirtual 27, 3) := by decide +kernel
theorem d_Bl_runPulse_40 : decode b_Bl_runPulse 40 = .ok (.aload_n 0, 1) := by decide +kernel
theorem d_Bl_runPulse_41 : decode b_Bl_runPulse 41 = .ok (.iload_n 1, 1) := by decide +kernel
theorem d_Bl_runPulse_42 : decode b_Bl_runPulse 42 = .ok (.iconst 2, 1) := by decide +kernel
theorem d_Bl_runPulse_43 : decode b_Bl_runPulse 43 = .ok (.iadd, 1) := by decide +kernel
theorem d_Bl_runPulse_44 : decode b_Bl_runPulse 44 = .ok (.invokevirtual 31, 3) := by decide +kernel
theorem d_Bl_runPulse_47 : decode b_Bl_runPulse 47 = .ok (.ifCond .eq 4, 3) := by decide +kernel
theorem d_Bl_runPulse_50 : decode b_Bl_runPulse 50 = .ok (.return_, 1) := by decide +kernel
theorem d_Bl_runPulse_51 : decode b_Bl_runPulse 51 = .ok (.iload_n 2, 1) := by decide +kernel
theorem d_Bl_runPulse_52 : decode b_Bl_runPulse 52 = .ok (.ifCond .eq 38, 3) := by decide +kernel
theorem d_Bl_runPulse_55 : decode b_Bl_runPulse 55 = .ok (.iload_n 3, 1) := by decide +kernel
theorem d_Bl_runPulse_56 : decode b_Bl_runPulse 56 = .ok (.ifCond .ne 34, 3) := by decide +kernel
theorem d_Bl_runPulse_59 : decode b_Bl_runPulse 59 = .ok (.aload_n 0, 1) := by decide +kernel
theorem d_Bl_runPulse_60 : decode b_Bl_runPulse 60 = .ok (.getfield 7, 3) := by decide +kernel
theorem d_Bl_runPulse_63 : decode b_Bl_runPulse 63 = .ok (.iload_n 1, 1) := by decide +kernel
theorem d_Bl_runPulse_64 : decode b_Bl_runPulse 64 = .ok (.iconst 3, 1) := by decide +kernel
theorem d_Bl_runPulse_65 : decode b_Bl_runPulse 65 = .ok (.iadd, 1) := by decide +kernel
theorem d_Bl_runPulse_66 : decode b_Bl_runPulse 66 = .ok (.iconst 0, 1) := by decide +kernel
theorem d_Bl_runPulse_67 : decode b_Bl_runPulse 67 = .ok (.invokevirtual 27, 3) := by decide +kernel
theorem d_Bl_runPulse_70 : decode b_Bl_runPulse 70 = .ok (.aload_n 0, 1) := by decide +kernel
theorem d_Bl_runPulse_71 : decode b_Bl_runPulse 71 = .ok (.iload_n 1, 1) := by decide +kernel
theorem d_Bl_runPulse_72 : decode b_Bl_runPulse 72 = .ok (.iconst 2, 1) := by decide +kernel
theorem d_Bl_runPulse_73 : decode b_Bl_runPulse 73 = .ok (.iadd, 1) := by decide +kernel
theorem d_Bl_runPulse_74 : decode b_Bl_runPulse 74 = .ok (.iload 4, 2) := by decide +kernel
theorem d_Bl_runPulse_76 : decode b_Bl_runPulse 76 = .ok (.ifCond .le 7, 3) := by decide +kernel
theorem d_Bl_runPulse_79 : decode b_Bl_runPulse 79 = .ok (.iconst 1, 1) := by decide +kernel
theorem d_Bl_runPulse_80 : decode b_Bl_runPulse 80 = .ok (.goto 4, 3) := by decide +kernel
theorem d_Bl_runPulse_83 : decode b_Bl_runPulse 83 = .ok (.iconst 0, 1) := by decide +kernel
theorem d_Bl_runPulse_84 : decode b_Bl_runPulse 84 = .ok (.invokevirtual 23, 3) := by decide +kernel
theorem d_Bl_runPulse_87 : decode b_Bl_runPulse 87 = .ok (.goto 18, 3) := by decide +kernel
theorem d_Bl_runPulse_90 : decode b_Bl_runPulse 90 = .ok (.iload_n 2, 1) := by decide +kernel
theorem d_Bl_runPulse_91 : decode b_Bl_runPulse 91 = .ok (.ifCond .ne 14, 3) := by decide +kernel
theorem d_Bl_runPulse_94 : decode b_Bl_runPulse 94 = .ok (.aload_n 0, 1) := by decide +kernel
theorem d_Bl_runPulse_95 : decode b_Bl_runPulse 95 = .ok (.getfield 7, 3) := by decide +kernel
theorem d_Bl_runPulse_98 : decode b_Bl_runPulse 98 = .ok (.iload_n 1, 1) := by decide +kernel
theorem d_Bl_runPulse_99 : decode b_Bl_runPulse 99 = .ok (.iconst 3, 1) := by decide +kernel
theorem d_Bl_runPulse_100 : decode b_Bl_runPulse 100 = .ok (.iadd, 1) := by decide +kernel
theorem d_Bl_runPulse_101 : decode b_Bl_runPulse 101 = .ok (.iconst 0, 1) := by decide +kernel
theorem d_Bl_runPulse_102 : decode b_Bl_runPulse 102 = .ok (.invokevirtual 27, 3) := by decide +kernel
theorem d_Bl_runPulse_105 : decode b_Bl_runPulse 105 = .ok (.return_, 1) := by decide +kernel
def r_Bl_runPulse_j90 (n : Nat)   (me : T_me) (x1 : Int32) (x2 : Int32) : Option (T_me) := if x2 = 0 then (r_Me_change n me (x1 + (3 : Int32)) (0 : Int32)).bind (fun q2 => some (q2)) else some (me)
def r_Bl_runPulse_j40 (n : Nat)   (me : T_me) (x1 : Int32) (x2 : Int32) (x3 : Int32) (x4 : Int32) : Option (T_me) := (r_Bl_isSet n me (x1 + (2 : Int32))).bind (fun q3 => if q3 = 0 then if x2 = 0 then r_Bl_runPulse_j90 n me x1 x2 else if x3 = 0 then (r_Me_change n me (x1 + (3 : Int32)) (0 : Int32)).bind (fun q7 => if x4 ≤ 0 then (r_Bl_putFlag n q7 (x1 + (2 : Int32)) (0 : Int32)).bind (fun q9 => some (q9)) else (r_Bl_putFlag n q7 (x1 + (2 : Int32)) (1 : Int32)).bind (fun q10 => some (q10))) else r_Bl_runPulse_j90 n me x1 x2 else some (me))
def r_Bl_runPulse (n : Nat) (me : T_me) (a0 : Int32) (a1 : Int32) (a2 : Int32) (a3 : Int32) (a4 : Int32) : Option (T_me) := (r_Bl_isSet n me (a0 + (2 : Int32))).bind (fun q11 => if q11 = 0 then r_Bl_runPulse_j40 n me a0 a1 a2 a3 else (r_Me_change n me (a0 + (3 : Int32)) a4).bind (fun q13 => if a4 < a3 then r_Bl_runPulse_j40 n q13 a0 a1 a2 a3 else (r_Me_change n q13 (a0 + (2 : Int32)) (0 : Int32)).bind (fun q15 => r_Bl_runPulse_j40 n q15 a0 a1 a2 a3)))
def rm_Bl_runPulse : Jvm.Room := { frames := 2, cells := 0, slots := 0, locals := 44 }
set_option maxHeartbeats 4000000 in
set_option maxRecDepth 100000 in
theorem c_Bl_runPulse {l : Launch} {D : va_G} {cI cL : ClassId} {ad : Nat → Nat} {ma : T_ma} {ko : T_ko} {sh : T_sh} {lo : T_lo} {de : T_de} {wa : T_wa} {me : T_me} {ru : T_ru} {ws0 : va_W} {sz n : Nat} {a0 : Int32} {a1 : Int32} {a2 : Int32} {a3 : Int32} {a4 : Int32} {me9 : T_me} (hw : ws0 = (wX cI cL ad ma ko sh lo de wa me ru)) (h : r_Bl_runPulse n me a0 a1 a2 a3 a4 = some me9) : Met l y_Bl_runPulse (Cond.code y_Bl_runPulse b_Bl_runPulse 6 none :: TB) rm_Bl_runPulse (PreW D clX (tyX cI cL) ws0 [.ref (ad 26), .int a0, .int a1, .int a2, .int a3, .int a4] sz) (PstV D clX (tyX cI cL) ws0 (wX cI cL ad ma ko sh lo de wa (me9) ru) sz) 0 0 (va_A ws0 sz) := by
  refine k_met (by decide) (Nat.le_of_ble_eq_true rfl) ?_
  intro p e s m below meth c ls hx hb hr hml hts hown hlk hnm hsz hP hK hD hA hz hl
  have hP : va_P D clX (wX cI cL ad ma ko sh lo de wa me ru) s.heap := by rw [← hw]; exact hP
  have hD : va_D (va_A ws0 sz) (wX cI cL ad ma ko sh lo de wa me ru) := by rw [← hw]; exact hD
  have hS : va_S (va_A ws0 sz) s.heap s.heap [] := va_S.rf
  have hl : lv_has ls 6 [(0, .ref (ad 26)), (1, .int a0), (2, .int a1), (3, .int a2), (4, .int a3), (5, .int a4)] := hl
  generalize hQ : MQ below (PstV D clX (tyX cI cL) ws0 (wX cI cL ad ma ko sh lo de wa (me9) ru) sz) [.ref (ad 26), .int a0, .int a1, .int a2, .int a3, .int a4].toArray s 0 0 (va_A ws0 sz) = Q
  have J90 : ∀ (me : T_me) (x1 : Int32) (x2 : Int32) (H : Heap) (locs : List Loc) (ls : Array Slot), r_Bl_runPulse_j90 n me x1 x2 = some me9 → va_P D clX (wX cI cL ad ma ko sh lo de wa me ru) H → va_D (va_A ws0 sz) (wX cI cL ad ma ko sh lo de wa me ru) → va_S (va_A ws0 sz) s.heap H locs → lv_has ls 6 [(0, .ref (ad 26)), (1, .int x1), (2, .int x2)] → W p l e rm_Bl_runPulse s m [.ref (ad 26), .int a0, .int a1, .int a2, .int a3, .int a4].toArray below meth c H locs 0 0 Q (F0 m 90 ls []) := by
    intro me x1 x2 H locs ls h hP hD hS hl
    unfold r_Bl_runPulse_j90 at h
    refine lv_iload_n hx hb d_Bl_runPulse_90 rfl (lv_at hl 2 rfl) ?_
    refine lv_if_ne (tgt := 105) hx hb d_Bl_runPulse_91 (by decide) (fun c1 => ?_) (fun c1 => ?_)
    · rw [if_neg c1] at h
      cases h
      subst hQ
      exact k_vret hx hb hr hlk hP hK hD hS d_Bl_runPulse_105
    · rw [if_pos c1] at h
      refine lv_aload_n hx hb d_Bl_runPulse_94 rfl (lv_at hl 0 rfl) ?_
      refine rd_Bl_memory hx hb hts hown hK hP lk_178 d_Bl_runPulse_95 ?_
      refine lv_iload_n hx hb d_Bl_runPulse_98 rfl (lv_at hl 1 rfl) ?_
      refine lv_iconst (v := 3) hx hb d_Bl_runPulse_99 (by decide) ?_
      refine lv_iadd hx hb d_Bl_runPulse_100 ?_
      refine lv_iconst (v := 0) hx hb d_Bl_runPulse_101 (by decide) ?_
      obtain ⟨q2, hq2, h⟩ := Option.bind_eq_some_iff.mp h
      refine k_V (k_runVN ⟨hx, hb, hml, hown, hts⟩ (c_Me_change rfl hq2) ok_Me_change is_Me_change lk_618 rfl rfl ⟨by decide, by decide⟩ hP hK hD hS hA hz (ci := 6) (q0 := 19) rfl rfl ob_Me rfl hl.1 rfl (Nat.le_of_ble_eq_true rfl) d_Bl_runPulse_102 ⟨Nat.zero_le _, Nat.zero_le _⟩) hD hS hA (fun H locs hP hD hS => ?_)
      cases h
      subst hQ
      exact k_vret hx hb hr hlk hP hK hD hS d_Bl_runPulse_105
  have J40 : ∀ (me : T_me) (x1 : Int32) (x2 : Int32) (x3 : Int32) (x4 : Int32) (H : Heap) (locs : List Loc) (ls : Array Slot), r_Bl_runPulse_j40 n me x1 x2 x3 x4 = some me9 → va_P D clX (wX cI cL ad ma ko sh lo de wa me ru) H → va_D (va_A ws0 sz) (wX cI cL ad ma ko sh lo de wa me ru) → va_S (va_A ws0 sz) s.heap H locs → lv_has ls 6 [(0, .ref (ad 26)), (1, .int x1), (2, .int x2), (3, .int x3), (4, .int x4)] → W p l e rm_Bl_runPulse s m [.ref (ad 26), .int a0, .int a1, .int a2, .int a3, .int a4].toArray below meth c H locs 0 0 Q (F0 m 40 ls []) := by
    intro me x1 x2 x3 x4 H locs ls h hP hD hS hl
    unfold r_Bl_runPulse_j40 at h
    refine lv_aload_n hx hb d_Bl_runPulse_40 rfl (lv_at hl 0 rfl) ?_
    refine lv_iload_n hx hb d_Bl_runPulse_41 rfl (lv_at hl 1 rfl) ?_
    refine lv_iconst (v := 2) hx hb d_Bl_runPulse_42 (by decide) ?_
    refine lv_iadd hx hb d_Bl_runPulse_43 ?_
    obtain ⟨q3, hq3, h⟩ := Option.bind_eq_some_iff.mp h
    refine k_I (k_runV ⟨hx, hb, hml, hown, hts⟩ (c_Bl_isSet rfl hq3) ok_Bl_isSet is_Bl_isSet lk_611 rfl rfl ⟨by decide, by decide⟩ hP hK hD hS hA hz (ci := 8) (q0 := 26) rfl rfl ob_Bl rfl hl.1 rfl (Nat.le_of_ble_eq_true rfl) d_Bl_runPulse_44 ⟨Nat.zero_le _, Nat.zero_le _⟩) hD hS hA (fun H locs hP hD hS => ?_)
    refine lv_if_eq (tgt := 51) hx hb d_Bl_runPulse_47 (by decide) (fun c4 => ?_) (fun c4 => ?_)
    · rw [if_pos c4] at h
      refine lv_iload_n hx hb d_Bl_runPulse_51 rfl (lv_at hl 2 rfl) ?_
      refine lv_if_eq (tgt := 90) hx hb d_Bl_runPulse_52 (by decide) (fun c5 => ?_) (fun c5 => ?_)
      · rw [if_pos c5] at h
        exact J90 _ _ _ _ _ _ h hP hD hS (lv_sub hl [0, 1, 2] rfl)
      · rw [if_neg c5] at h
        refine lv_iload_n hx hb d_Bl_runPulse_55 rfl (lv_at hl 3 rfl) ?_
        refine lv_if_ne (tgt := 90) hx hb d_Bl_runPulse_56 (by decide) (fun c6 => ?_) (fun c6 => ?_)
        · rw [if_neg c6] at h
          exact J90 _ _ _ _ _ _ h hP hD hS (lv_sub hl [0, 1, 2] rfl)
        · rw [if_pos c6] at h
          refine lv_aload_n hx hb d_Bl_runPulse_59 rfl (lv_at hl 0 rfl) ?_
          refine rd_Bl_memory hx hb hts hown hK hP lk_178 d_Bl_runPulse_60 ?_
          refine lv_iload_n hx hb d_Bl_runPulse_63 rfl (lv_at hl 1 rfl) ?_
          refine lv_iconst (v := 3) hx hb d_Bl_runPulse_64 (by decide) ?_
          refine lv_iadd hx hb d_Bl_runPulse_65 ?_
          refine lv_iconst (v := 0) hx hb d_Bl_runPulse_66 (by decide) ?_
          obtain ⟨q7, hq7, h⟩ := Option.bind_eq_some_iff.mp h
          refine k_V (k_runVN ⟨hx, hb, hml, hown, hts⟩ (c_Me_change rfl hq7) ok_Me_change is_Me_change lk_618 rfl rfl ⟨by decide, by decide⟩ hP hK hD hS hA hz (ci := 6) (q0 := 19) rfl rfl ob_Me rfl hl.1 rfl (Nat.le_of_ble_eq_true rfl) d_Bl_runPulse_67 ⟨Nat.zero_le _, Nat.zero_le _⟩) hD hS hA (fun H locs hP hD hS => ?_)
          refine lv_aload_n hx hb d_Bl_runPulse_70 rfl (lv_at hl 0 rfl) ?_
          refine lv_iload_n hx hb d_Bl_runPulse_71 rfl (lv_at hl 1 rfl) ?_
          refine lv_iconst (v := 2) hx hb d_Bl_runPulse_72 (by decide) ?_
          refine lv_iadd hx hb d_Bl_runPulse_73 ?_
          refine lv_iload hx hb d_Bl_runPulse_74 (lv_at hl 4 rfl) ?_
          refine lv_if_le (tgt := 83) hx hb d_Bl_runPulse_76 (by decide) (fun c8 => ?_) (fun c8 => ?_)
          · rw [if_pos c8] at h
            refine lv_iconst (v := 0) hx hb d_Bl_runPulse_83 (by decide) ?_
            obtain ⟨q9, hq9, h⟩ := Option.bind_eq_some_iff.mp h
            refine k_V (k_runV ⟨hx, hb, hml, hown, hts⟩ (c_Bl_putFlag rfl hq9) ok_Bl_putFlag is_Bl_putFlag lk_619 rfl rfl ⟨by decide, by decide⟩ hP hK hD hS hA hz (ci := 8) (q0 := 26) rfl rfl ob_Bl rfl hl.1 rfl (Nat.le_of_ble_eq_true rfl) d_Bl_runPulse_84 ⟨Nat.zero_le _, Nat.zero_le _⟩) hD hS hA (fun H locs hP hD hS => ?_)
            refine lv_goto (tgt := 105) hx hb d_Bl_runPulse_87 (by decide) ?_
            cases h
            subst hQ
            exact k_vret hx hb hr hlk hP hK hD hS d_Bl_runPulse_105
          · rw [if_neg c8] at h
            refine lv_iconst (v := 1) hx hb d_Bl_runPulse_79 (by decide) ?_
            refine lv_goto (tgt := 84) hx hb d_Bl_runPulse_80 (by decide) ?_
            obtain ⟨q10, hq10, h⟩ := Option.bind_eq_some_iff.mp h
            refine k_V (k_runV ⟨hx, hb, hml, hown, hts⟩ (c_Bl_putFlag rfl hq10) ok_Bl_putFlag is_Bl_putFlag lk_619 rfl rfl ⟨by decide, by decide⟩ hP hK hD hS hA hz (ci := 8) (q0 := 26) rfl rfl ob_Bl rfl hl.1 rfl (Nat.le_of_ble_eq_true rfl) d_Bl_runPulse_84 ⟨Nat.zero_le _, Nat.zero_le _⟩) hD hS hA (fun H locs hP hD hS => ?_)
            refine lv_goto (tgt := 105) hx hb d_Bl_runPulse_87 (by decide) ?_
            cases h
            subst hQ
            exact k_vret hx hb hr hlk hP hK hD hS d_Bl_runPulse_105
    · rw [if_neg c4] at h
      cases h
      subst hQ
      exact k_vret hx hb hr hlk hP hK hD hS d_Bl_runPulse_50
  unfold r_Bl_runPulse at h
  refine lv_aload_n hx hb d_Bl_runPulse_0 rfl (lv_at hl 0 rfl) ?_
  refine lv_iload_n hx hb d_Bl_runPulse_1 rfl (lv_at hl 1 rfl) ?_
  refine lv_iconst (v := 2) hx hb d_Bl_runPulse_2 (by decide) ?_
  refine lv_iadd hx hb d_Bl_runPulse_3 ?_
  obtain ⟨q11, hq11, h⟩ := Option.bind_eq_some_iff.mp h
  refine k_I (k_runV ⟨hx, hb, hml, hown, hts⟩ (c_Bl_isSet rfl hq11) ok_Bl_isSet is_Bl_isSet lk_611 rfl rfl ⟨by decide, by decide⟩ hP hK hD hS hA hz (ci := 8) (q0 := 26) rfl rfl ob_Bl rfl hl.1 rfl (Nat.le_of_ble_eq_true rfl) d_Bl_runPulse_4 ⟨Nat.zero_le _, Nat.zero_le _⟩) hD hS hA (fun H locs hP hD hS => ?_)
  refine lv_if_eq (tgt := 40) hx hb d_Bl_runPulse_7 (by decide) (fun c12 => ?_) (fun c12 => ?_)
  · rw [if_pos c12] at h
    exact J40 _ _ _ _ _ _ _ _ h hP hD hS (lv_sub hl [0, 1, 2, 3, 4] rfl)
  · rw [if_neg c12] at h
    refine lv_aload_n hx hb d_Bl_runPulse_10 rfl (lv_at hl 0 rfl) ?_
    refine rd_Bl_memory hx hb hts hown hK hP lk_178 d_Bl_runPulse_11 ?_
    refine lv_iload_n hx hb d_Bl_runPulse_14 rfl (lv_at hl 1 rfl) ?_
    refine lv_iconst (v := 3) hx hb d_Bl_runPulse_15 (by decide) ?_
    refine lv_iadd hx hb d_Bl_runPulse_16 ?_
    refine lv_iload hx hb d_Bl_runPulse_17 (lv_at hl 5 rfl) ?_
    obtain ⟨q13, hq13, h⟩ := Option.bind_eq_some_iff.mp h
    refine k_V (k_runVN ⟨hx, hb, hml, hown, hts⟩ (c_Me_change rfl hq13) ok_Me_change is_Me_change lk_618 rfl rfl ⟨by decide, by decide⟩ hP hK hD hS hA hz (ci := 6) (q0 := 19) rfl rfl ob_Me rfl hl.1 rfl (Nat.le_of_ble_eq_true rfl) d_Bl_runPulse_19 ⟨Nat.zero_le _, Nat.zero_le _⟩) hD hS hA (fun H locs hP hD hS => ?_)
    refine lv_iload hx hb d_Bl_runPulse_22 (lv_at hl 5 rfl) ?_
    refine lv_iload hx hb d_Bl_runPulse_24 (lv_at hl 4 rfl) ?_
    refine lv_icmp_lt (tgt := 40) hx hb d_Bl_runPulse_26 (by decide) (fun c14 => ?_) (fun c14 => ?_)
    · rw [if_pos c14] at h
      exact J40 _ _ _ _ _ _ _ _ h hP hD hS (lv_sub hl [0, 1, 2, 3, 4] rfl)
    · rw [if_neg c14] at h
      refine lv_aload_n hx hb d_Bl_runPulse_29 rfl (lv_at hl 0 rfl) ?_
      refine rd_Bl_memory hx hb hts hown hK hP lk_178 d_Bl_runPulse_30 ?_
      refine lv_iload_n hx hb d_Bl_runPulse_33 rfl (lv_at hl 1 rfl) ?_
      refine lv_iconst (v := 2) hx hb d_Bl_runPulse_34 (by decide) ?_
      refine lv_iadd hx hb d_Bl_runPulse_35 ?_
      refine lv_iconst (v := 0) hx hb d_Bl_runPulse_36 (by decide) ?_
      obtain ⟨q15, hq15, h⟩ := Option.bind_eq_some_iff.mp h
      refine k_V (k_runVN ⟨hx, hb, hml, hown, hts⟩ (c_Me_change rfl hq15) ok_Me_change is_Me_change lk_618 rfl rfl ⟨by decide, by decide⟩ hP hK hD hS hA hz (ci := 6) (q0 := 19) rfl rfl ob_Me rfl hl.1 rfl (Nat.le_of_ble_eq_true rfl) d_Bl_runPulse_37 ⟨Nat.zero_le _, Nat.zero_le _⟩) hD hS hA (fun H locs hP hD hS => ?_)
      exact J40 _ _ _ _ _ _ _ _ h hP hD hS (lv_sub hl [0, 1, 2, 3, 4] rfl)
theorem d_Bl_runTimer_0 : decode b_Bl_runTimer 0 = .ok (.aload_n 0, 1) := by decide +kernel
theorem d_Bl_runTimer_1 : decode b_Bl_runTimer 1 = .ok (.getfield 7, 3) := by decide +kernel
theorem d_Bl_runTimer_4 : decode b_Bl_runTimer 4 = .ok (.iload_n 2, 1) := by decide +kernel
theorem d_Bl_runTimer_5 : decode b_Bl_runTimer 5 = .ok (.iconst 1, 1) := by decide +kernel
theorem d_Bl_runTimer_6 : decode b_Bl_runTimer 6 = .ok (.iadd, 1) := by decide +kernel
theorem d_Bl_runTimer_7 : decode b_Bl_runTimer 7 = .ok (.invokevirtual 13, 3) := by decide +kernel
theorem d_Bl_runTimer_10 : decode b_Bl_runTimer 10 = .ok (.iconst 0, 1) := by decide +kernel
theorem d_Bl_runTimer_11 : decode b_Bl_runTimer 11 = .ok (.invokestatic 42, 3) := by decide +kernel
theorem d_Bl_runTimer_14 : decode b_Bl_runTimer 14 = .ok (.istore 5, 2) := by decide +kernel
theorem d_Bl_runTimer_16 : decode b_Bl_runTimer 16 = .ok (.aload_n 0, 1) := by decide +kernel
theorem d_Bl_runTimer_17 : decode b_Bl_runTimer 17 = .ok (.iload_n 2, 1) := by decide +kernel
theorem d_Bl_runTimer_18 : decode b_Bl_runTimer 18 = .ok (.iconst 4, 1) := by decide +kernel
theorem d_Bl_runTimer_19 : decode b_Bl_runTimer 19 = .ok (.iadd, 1) := by decide +kernel
theorem d_Bl_runTimer_20 : decode b_Bl_runTimer 20 = .ok (.invokevirtual 31, 3) := by decide +kernel
theorem d_Bl_runTimer_23 : decode b_Bl_runTimer 23 = .ok (.istore 6, 2) := by decide +kernel
theorem d_Bl_runTimer_25 : decode b_Bl_runTimer 25 = .ok (.aload_n 0, 1) := by decide +kernel
theorem d_Bl_runTimer_26 : decode b_Bl_runTimer 26 = .ok (.getfield 7, 3) := by decide +kernel
theorem d_Bl_runTimer_29 : decode b_Bl_runTimer 29 = .ok (.iload_n 2, 1) := by decide +kernel
theorem d_Bl_runTimer_30 : decode b_Bl_runTimer 30 = .ok (.iconst 3, 1) := by decide +kernel
theorem d_Bl_runTimer_31 : decode b_Bl_runTimer 31 = .ok (.iadd, 1) := by decide +kernel
theorem d_Bl_runTimer_32 : decode b_Bl_runTimer 32 = .ok (.invokevirtual 13, 3) := by decide +kernel
theorem d_Bl_runTimer_35 : decode b_Bl_runTimer 35 = .ok (.i2l, 1) := by decide +kernel
theorem d_Bl_runTimer_36 : decode b_Bl_runTimer 36 = .ok (.iload 4, 2) := by decide +kernel
theorem d_Bl_runTimer_38 : decode b_Bl_runTimer 38 = .ok (.i2l, 1) := by decide +kernel
theorem d_Bl_runTimer_39 : decode b_Bl_runTimer 39 = .ok (.ladd, 1) := by decide +kernel
theorem d_Bl_runTimer_40 : decode b_Bl_runTimer 40 = .ok (.aload_n 0, 1) := by decide +kernel
theorem d_Bl_runTimer_41 : decode b_Bl_runTimer 41 = .ok (.getfield 7, 3) := by decide +kernel
theorem d_Bl_runTimer_44 : decode b_Bl_runTimer 44 = .ok (.iload_n 2, 1) := by decide +kernel
theorem d_Bl_runTimer_45 : decode b_Bl_runTimer 45 = .ok (.iconst 5, 1) := by decide +kernel
theorem d_Bl_runTimer_46 : decode b_Bl_runTimer 46 = .ok (.iadd, 1) := by decide +kernel
theorem d_Bl_runTimer_47 : decode b_Bl_runTimer 47 = .ok (.invokevirtual 13, 3) := by decide +kernel
theorem d_Bl_runTimer_50 : decode b_Bl_runTimer 50 = .ok (.i2l, 1) := by decide +kernel
theorem d_Bl_runTimer_51 : decode b_Bl_runTimer 51 = .ok (.lsub, 1) := by decide +kernel
theorem d_Bl_runTimer_52 : decode b_Bl_runTimer 52 = .ok (.lstore 7, 2) := by decide +kernel
theorem d_Bl_runTimer_54 : decode b_Bl_runTimer 54 = .ok (.iload 5, 2) := by decide +kernel
theorem d_Bl_runTimer_56 : decode b_Bl_runTimer 56 = .ok (.i2l, 1) := by decide +kernel
theorem d_Bl_runTimer_57 : decode b_Bl_runTimer 57 = .ok (.lload 7, 2) := by decide +kernel
theorem d_Bl_runTimer_59 : decode b_Bl_runTimer 59 = .ok (.invokestatic 48, 3) := by decide +kernel
theorem d_Bl_runTimer_62 : decode b_Bl_runTimer 62 = .ok (.l2i, 1) := by decide +kernel
theorem d_Bl_runTimer_63 : decode b_Bl_runTimer 63 = .ok (.istore 9, 2) := by decide +kernel
theorem d_Bl_runTimer_65 : decode b_Bl_runTimer 65 = .ok (.iload_n 1, 1) := by decide +kernel
theorem d_Bl_runTimer_66 : decode b_Bl_runTimer 66 = .ok (.ifCond .ne 58, 3) := by decide +kernel
theorem d_Bl_runTimer_69 : decode b_Bl_runTimer 69 = .ok (.iload_n 3, 1) := by decide +kernel
theorem d_Bl_runTimer_70 : decode b_Bl_runTimer 70 = .ok (.ifCond .eq 13, 3) := by decide +kernel
theorem d_Bl_runTimer_73 : decode b_Bl_runTimer 73 = .ok (.iload 6, 2) := by decide +kernel
theorem d_Bl_runTimer_75 : decode b_Bl_runTimer 75 = .ok (.ifCond .eq 8, 3) := by decide +kernel
theorem d_Bl_runTimer_78 : decode b_Bl_runTimer 78 = .ok (.iload 9, 2) := by decide +kernel
theorem d_Bl_runTimer_80 : decode b_Bl_runTimer 80 = .ok (.goto 4, 3) := by decide +kernel
theorem d_Bl_runTimer_83 : decode b_Bl_runTimer 83 = .ok (.iconst 0, 1) := by decide +kernel
theorem d_Bl_runTimer_84 : decode b_Bl_runTimer 84 = .ok (.istore 10, 2) := by decide +kernel
theorem d_Bl_runTimer_86 : decode b_Bl_runTimer 86 = .ok (.aload_n 0, 1) := by decide +kernel
theorem d_Bl_runTimer_87 : decode b_Bl_runTimer 87 = .ok (.getfield 7, 3) := by decide +kernel
theorem d_Bl_runTimer_90 : decode b_Bl_runTimer 90 = .ok (.iload_n 2, 1) := by decide +kernel
theorem d_Bl_runTimer_91 : decode b_Bl_runTimer 91 = .ok (.iconst 3, 1) := by decide +kernel
theorem d_Bl_runTimer_92 : decode b_Bl_runTimer 92 = .ok (.iadd, 1) := by decide +kernel
theorem d_Bl_runTimer_93 : decode b_Bl_runTimer 93 = .ok (.iload 10, 2) := by decide +kernel
theorem d_Bl_runTimer_95 : decode b_Bl_runTimer 95 = .ok (.invokevirtual 27, 3) := by decide +kernel
theorem d_Bl_runTimer_98 : decode b_Bl_runTimer 98 = .ok (.aload_n 0, 1) := by decide +kernel
theorem d_Bl_runTimer_99 : decode b_Bl_runTimer 99 = .ok (.iload_n 2, 1) := by decide +kernel
theorem d_Bl_runTimer_100 : decode b_Bl_runTimer 100 = .ok (.iconst 2, 1) := by decide +kernel
theorem d_Bl_runTimer_101 : decode b_Bl_runTimer 101 = .ok (.iadd, 1) := by decide +kernel
theorem d_Bl_runTimer_102 : decode b_Bl_runTimer 102 = .ok (.iload_n 3, 1) := by decide +kernel
theorem d_Bl_runTimer_103 : decode b_Bl_runTimer 103 = .ok (.ifCond .eq 14, 3) := by decide +kernel
theorem d_Bl_runTimer_106 : decode b_Bl_runTimer 106 = .ok (.iload 10, 2) := by decide +kernel
theorem d_Bl_runTimer_108 : decode b_Bl_runTimer 108 = .ok (.iload 5, 2) := by decide +kernel
theorem d_Bl_runTimer_110 : decode b_Bl_runTimer 110 = .ok (.if_icmp .lt 7, 3) := by decide +kernel
theorem d_Bl_runTimer_113 : decode b_Bl_runTimer 113 = .ok (.iconst 1, 1) := by decide +kernel
theorem d_Bl_runTimer_114 : decode b_Bl_runTimer 114 = .ok (.goto 4, 3) := by decide +kernel
theorem d_Bl_runTimer_117 : decode b_Bl_runTimer 117 = .ok (.iconst 0, 1) := by decide +kernel
theorem d_Bl_runTimer_118 : decode b_Bl_runTimer 118 = .ok (.invokevirtual 23, 3) := by decide +kernel
theorem d_Bl_runTimer_121 : decode b_Bl_runTimer 121 = .ok (.goto 35, 3) := by decide +kernel
theorem d_Bl_runTimer_124 : decode b_Bl_runTimer 124 = .ok (.iload_n 1, 1) := by decide +kernel
theorem d_Bl_runTimer_125 : decode b_Bl_runTimer 125 = .ok (.iconst 1, 1) := by decide +kernel
theorem d_Bl_runTimer_126 : decode b_Bl_runTimer 126 = .ok (.if_icmp .ne 18, 3) := by decide +kernel
theorem d_Bl_runTimer_129 : decode b_Bl_runTimer 129 = .ok (.aload_n 0, 1) := by decide +kernel
theorem d_Bl_runTimer_130 : decode b_Bl_runTimer 130 = .ok (.iload_n 2, 1) := by decide +kernel
theorem d_Bl_runTimer_131 : decode b_Bl_runTimer 131 = .ok (.iload_n 3, 1) := by decide +kernel
theorem d_Bl_runTimer_132 : decode b_Bl_runTimer 132 = .ok (.iload 6, 2) := by decide +kernel
theorem d_Bl_runTimer_134 : decode b_Bl_runTimer 134 = .ok (.iload 5, 2) := by decide +kernel
theorem d_Bl_runTimer_136 : decode b_Bl_runTimer 136 = .ok (.iload 9, 2) := by decide +kernel
theorem d_Bl_runTimer_138 : decode b_Bl_runTimer 138 = .ok (.invokevirtual 52, 3) := by decide +kernel
theorem d_Bl_runTimer_141 : decode b_Bl_runTimer 141 = .ok (.goto 15, 3) := by decide +kernel
theorem d_Bl_runTimer_144 : decode b_Bl_runTimer 144 = .ok (.aload_n 0, 1) := by decide +kernel
theorem d_Bl_runTimer_145 : decode b_Bl_runTimer 145 = .ok (.iload_n 2, 1) := by decide +kernel
theorem d_Bl_runTimer_146 : decode b_Bl_runTimer 146 = .ok (.iload_n 3, 1) := by decide +kernel
theorem d_Bl_runTimer_147 : decode b_Bl_runTimer 147 = .ok (.iload 6, 2) := by decide +kernel
theorem d_Bl_runTimer_149 : decode b_Bl_runTimer 149 = .ok (.iload 5, 2) := by decide +kernel
theorem d_Bl_runTimer_151 : decode b_Bl_runTimer 151 = .ok (.iload 9, 2) := by decide +kernel
theorem d_Bl_runTimer_153 : decode b_Bl_runTimer 153 = .ok (.invokevirtual 56, 3) := by decide +kernel
theorem d_Bl_runTimer_156 : decode b_Bl_runTimer 156 = .ok (.return_, 1) := by decide +kernel
def r_Bl_runTimer_j84 (n : Nat)   (me : T_me) (x2 : Int32) (x3 : Int32) (x5 : Int32) (y0 : Int32) : Option (T_me) := (r_Me_change n me (x2 + (3 : Int32)) y0).bind (fun q1 => if x3 = 0 then (r_Bl_putFlag n q1 (x2 + (2 : Int32)) (0 : Int32)).bind (fun q3 => some (q3)) else if y0 < x5 then (r_Bl_putFlag n q1 (x2 + (2 : Int32)) (0 : Int32)).bind (fun q5 => some (q5)) else (r_Bl_putFlag n q1 (x2 + (2 : Int32)) (1 : Int32)).bind (fun q6 => some (q6)))
def r_Bl_runTimer_j83 (n : Nat)   (me : T_me) (x2 : Int32) (x3 : Int32) (x5 : Int32) : Option (T_me) := r_Bl_runTimer_j84 n me x2 x3 x5 (0 : Int32)
def r_Bl_runTimer (n : Nat) (me : T_me) (a0 : Int32) (a1 : Int32) (a2 : Int32) (a3 : Int32) : Option (T_me) := (r_Me_cell n me (a1 + (1 : Int32))).bind (fun q7 => (r_Bl_isSet n me (a1 + (4 : Int32))).bind (fun q8 => (r_Me_cell n me (a1 + (3 : Int32))).bind (fun q9 => (r_Me_cell n me (a1 + (5 : Int32))).bind (fun q10 => if a0 = 0 then if a2 = 0 then r_Bl_runTimer_j83 n me a1 a2 (if q7 < (0 : Int32) then (0 : Int32) else q7) else if q8 = 0 then r_Bl_runTimer_j83 n me a1 a2 (if q7 < (0 : Int32) then (0 : Int32) else q7) else r_Bl_runTimer_j84 n me a1 a2 (if q7 < (0 : Int32) then (0 : Int32) else q7) (if ((q9.toInt64 + a3.toInt64) - q10.toInt64) < (if q7 < (0 : Int32) then (0 : Int32) else q7).toInt64 then ((q9.toInt64 + a3.toInt64) - q10.toInt64) else (if q7 < (0 : Int32) then (0 : Int32) else q7).toInt64).toInt32 else if a0 = (1 : Int32) then (r_Bl_runOffDelay n me a1 a2 q8 (if q7 < (0 : Int32) then (0 : Int32) else q7) (if ((q9.toInt64 + a3.toInt64) - q10.toInt64) < (if q7 < (0 : Int32) then (0 : Int32) else q7).toInt64 then ((q9.toInt64 + a3.toInt64) - q10.toInt64) else (if q7 < (0 : Int32) then (0 : Int32) else q7).toInt64).toInt32).bind (fun q14 => some (q14)) else (r_Bl_runPulse n me a1 a2 q8 (if q7 < (0 : Int32) then (0 : Int32) else q7) (if ((q9.toInt64 + a3.toInt64) - q10.toInt64) < (if q7 < (0 : Int32) then (0 : Int32) else q7).toInt64 then ((q9.toInt64 + a3.toInt64) - q10.toInt64) else (if q7 < (0 : Int32) then (0 : Int32) else q7).toInt64).toInt32).bind (fun q13 => some (q13))))))
def rm_Bl_runTimer : Jvm.Room := { frames := 3, cells := 0, slots := 0, locals := 69 }
set_option maxHeartbeats 4000000 in
set_option maxRecDepth 100000 in
theorem c_Bl_runTimer {l : Launch} {D : va_G} {cI cL : ClassId} {ad : Nat → Nat} {ma : T_ma} {ko : T_ko} {sh : T_sh} {lo : T_lo} {de : T_de} {wa : T_wa} {me : T_me} {ru : T_ru} {ws0 : va_W} {sz n : Nat} {a0 : Int32} {a1 : Int32} {a2 : Int32} {a3 : Int32} {me9 : T_me} (hw : ws0 = (wX cI cL ad ma ko sh lo de wa me ru)) (h : r_Bl_runTimer n me a0 a1 a2 a3 = some me9) : Met l y_Bl_runTimer (Cond.code y_Bl_runTimer b_Bl_runTimer 11 none :: TB) rm_Bl_runTimer (PreW D clX (tyX cI cL) ws0 [.ref (ad 26), .int a0, .int a1, .int a2, .int a3] sz) (PstV D clX (tyX cI cL) ws0 (wX cI cL ad ma ko sh lo de wa (me9) ru) sz) 0 0 (va_A ws0 sz) := by
  refine k_met (by decide) (Nat.le_of_ble_eq_true rfl) ?_
  intro p e s m below meth c ls hx hb hr hml hts hown hlk hnm hsz hP hK hD hA hz hl
  have hP : va_P D clX (wX cI cL ad ma ko sh lo de wa me ru) s.heap := by rw [← hw]; exact hP
  have hD : va_D (va_A ws0 sz) (wX cI cL ad ma ko sh lo de wa me ru) := by rw [← hw]; exact hD
  have hS : va_S (va_A ws0 sz) s.heap s.heap [] := va_S.rf
  have hl : lv_has ls 11 [(0, .ref (ad 26)), (1, .int a0), (2, .int a1), (3, .int a2), (4, .int a3)] := hl
  generalize hQ : MQ below (PstV D clX (tyX cI cL) ws0 (wX cI cL ad ma ko sh lo de wa (me9) ru) sz) [.ref (ad 26), .int a0, .int a1, .int a2, .int a3].toArray s 0 0 (va_A ws0 sz) = Q
  have J84 : ∀ (me : T_me) (x2 : Int32) (x3 : Int32) (x5 : Int32) (y0 : Int32) (H : Heap) (locs : List Loc) (ls : Array Slot), r_Bl_runTimer_j84 n me x2 x3 x5 y0 = some me9 → va_P D clX (wX cI cL ad ma ko sh lo de wa me ru) H → va_D (va_A ws0 sz) (wX cI cL ad ma ko sh lo de wa me ru) → va_S (va_A ws0 sz) s.heap H locs → lv_has ls 11 [(0, .ref (ad 26)), (2, .int x2), (3, .int x3), (5, .int x5)] → W p l e rm_Bl_runTimer s m [.ref (ad 26), .int a0, .int a1, .int a2, .int a3].toArray below meth c H locs 0 0 Q (F0 m 84 ls [.int y0]) := by
    intro me x2 x3 x5 y0 H locs ls h hP hD hS hl
    unfold r_Bl_runTimer_j84 at h
    refine lv_istore (lv' := [(10, .int y0), (0, .ref (ad 26)), (2, .int x2), (3, .int x3), (5, .int x5)]) hx hb d_Bl_runTimer_84 hl (by decide) rfl (fun ls hl => ?_)
    refine lv_aload_n hx hb d_Bl_runTimer_86 rfl (lv_at hl 1 rfl) ?_
    refine rd_Bl_memory hx hb hts hown hK hP lk_178 d_Bl_runTimer_87 ?_
    refine lv_iload_n hx hb d_Bl_runTimer_90 rfl (lv_at hl 2 rfl) ?_
    refine lv_iconst (v := 3) hx hb d_Bl_runTimer_91 (by decide) ?_
    refine lv_iadd hx hb d_Bl_runTimer_92 ?_
    refine lv_iload hx hb d_Bl_runTimer_93 (lv_at hl 0 rfl) ?_
    obtain ⟨q1, hq1, h⟩ := Option.bind_eq_some_iff.mp h
    refine k_V (k_runVN ⟨hx, hb, hml, hown, hts⟩ (c_Me_change rfl hq1) ok_Me_change is_Me_change lk_618 rfl rfl ⟨by decide, by decide⟩ hP hK hD hS hA hz (ci := 6) (q0 := 19) rfl rfl ob_Me rfl hl.1 rfl (Nat.le_of_ble_eq_true rfl) d_Bl_runTimer_95 ⟨Nat.zero_le _, Nat.zero_le _⟩) hD hS hA (fun H locs hP hD hS => ?_)
    refine lv_aload_n hx hb d_Bl_runTimer_98 rfl (lv_at hl 1 rfl) ?_
    refine lv_iload_n hx hb d_Bl_runTimer_99 rfl (lv_at hl 2 rfl) ?_
    refine lv_iconst (v := 2) hx hb d_Bl_runTimer_100 (by decide) ?_
    refine lv_iadd hx hb d_Bl_runTimer_101 ?_
    refine lv_iload_n hx hb d_Bl_runTimer_102 rfl (lv_at hl 3 rfl) ?_
    refine lv_if_eq (tgt := 117) hx hb d_Bl_runTimer_103 (by decide) (fun c2 => ?_) (fun c2 => ?_)
    · rw [if_pos c2] at h
      refine lv_iconst (v := 0) hx hb d_Bl_runTimer_117 (by decide) ?_
      obtain ⟨q3, hq3, h⟩ := Option.bind_eq_some_iff.mp h
      refine k_V (k_runV ⟨hx, hb, hml, hown, hts⟩ (c_Bl_putFlag rfl hq3) ok_Bl_putFlag is_Bl_putFlag lk_619 rfl rfl ⟨by decide, by decide⟩ hP hK hD hS hA hz (ci := 8) (q0 := 26) rfl rfl ob_Bl rfl hl.1 rfl (Nat.le_of_ble_eq_true rfl) d_Bl_runTimer_118 ⟨Nat.zero_le _, Nat.zero_le _⟩) hD hS hA (fun H locs hP hD hS => ?_)
      refine lv_goto (tgt := 156) hx hb d_Bl_runTimer_121 (by decide) ?_
      cases h
      subst hQ
      exact k_vret hx hb hr hlk hP hK hD hS d_Bl_runTimer_156
    · rw [if_neg c2] at h
      refine lv_iload hx hb d_Bl_runTimer_106 (lv_at hl 0 rfl) ?_
      refine lv_iload hx hb d_Bl_runTimer_108 (lv_at hl 4 rfl) ?_
      refine lv_icmp_lt (tgt := 117) hx hb d_Bl_runTimer_110 (by decide) (fun c4 => ?_) (fun c4 => ?_)
      · rw [if_pos c4] at h
        refine lv_iconst (v := 0) hx hb d_Bl_runTimer_117 (by decide) ?_
        obtain ⟨q5, hq5, h⟩ := Option.bind_eq_some_iff.mp h
        refine k_V (k_runV ⟨hx, hb, hml, hown, hts⟩ (c_Bl_putFlag rfl hq5) ok_Bl_putFlag is_Bl_putFlag lk_619 rfl rfl ⟨by decide, by decide⟩ hP hK hD hS hA hz (ci := 8) (q0 := 26) rfl rfl ob_Bl rfl hl.1 rfl (Nat.le_of_ble_eq_true rfl) d_Bl_runTimer_118 ⟨Nat.zero_le _, Nat.zero_le _⟩) hD hS hA (fun H locs hP hD hS => ?_)
        refine lv_goto (tgt := 156) hx hb d_Bl_runTimer_121 (by decide) ?_
        cases h
        subst hQ
        exact k_vret hx hb hr hlk hP hK hD hS d_Bl_runTimer_156
      · rw [if_neg c4] at h
        refine lv_iconst (v := 1) hx hb d_Bl_runTimer_113 (by decide) ?_
        refine lv_goto (tgt := 118) hx hb d_Bl_runTimer_114 (by decide) ?_
        obtain ⟨q6, hq6, h⟩ := Option.bind_eq_some_iff.mp h
        refine k_V (k_runV ⟨hx, hb, hml, hown, hts⟩ (c_Bl_putFlag rfl hq6) ok_Bl_putFlag is_Bl_putFlag lk_619 rfl rfl ⟨by decide, by decide⟩ hP hK hD hS hA hz (ci := 8) (q0 := 26) rfl rfl ob_Bl rfl hl.1 rfl (Nat.le_of_ble_eq_true rfl) d_Bl_runTimer_118 ⟨Nat.zero_le _, Nat.zero_le _⟩) hD hS hA (fun H locs hP hD hS => ?_)
        refine lv_goto (tgt := 156) hx hb d_Bl_runTimer_121 (by decide) ?_
        cases h
        subst hQ
        exact k_vret hx hb hr hlk hP hK hD hS d_Bl_runTimer_156
  have J83 : ∀ (me : T_me) (x2 : Int32) (x3 : Int32) (x5 : Int32) (H : Heap) (locs : List Loc) (ls : Array Slot), r_Bl_runTimer_j83 n me x2 x3 x5 = some me9 → va_P D clX (wX cI cL ad ma ko sh lo de wa me ru) H → va_D (va_A ws0 sz) (wX cI cL ad ma ko sh lo de wa me ru) → va_S (va_A ws0 sz) s.heap H locs → lv_has ls 11 [(0, .ref (ad 26)), (2, .int x2), (3, .int x3), (5, .int x5)] → W p l e rm_Bl_runTimer s m [.ref (ad 26), .int a0, .int a1, .int a2, .int a3].toArray below meth c H locs 0 0 Q (F0 m 83 ls []) := by
    intro me x2 x3 x5 H locs ls h hP hD hS hl
    unfold r_Bl_runTimer_j83 at h
    refine lv_iconst (v := 0) hx hb d_Bl_runTimer_83 (by decide) ?_
    exact J84 _ _ _ _ _ _ _ _ h hP hD hS (lv_sub hl [0, 1, 2, 3] rfl)
  unfold r_Bl_runTimer at h
  refine lv_aload_n hx hb d_Bl_runTimer_0 rfl (lv_at hl 0 rfl) ?_
  refine rd_Bl_memory hx hb hts hown hK hP lk_178 d_Bl_runTimer_1 ?_
  refine lv_iload_n hx hb d_Bl_runTimer_4 rfl (lv_at hl 2 rfl) ?_
  refine lv_iconst (v := 1) hx hb d_Bl_runTimer_5 (by decide) ?_
  refine lv_iadd hx hb d_Bl_runTimer_6 ?_
  obtain ⟨q7, hq7, h⟩ := Option.bind_eq_some_iff.mp h
  refine k_I (k_runVN ⟨hx, hb, hml, hown, hts⟩ (c_Me_cell rfl hq7) ok_Me_cell is_Me_cell lk_605 rfl rfl ⟨by decide, by decide⟩ hP hK hD hS hA hz (ci := 6) (q0 := 19) rfl rfl ob_Me rfl hl.1 rfl (Nat.le_of_ble_eq_true rfl) d_Bl_runTimer_7 ⟨Nat.zero_le _, Nat.zero_le _⟩) hD hS hA (fun H locs hP hD hS => ?_)
  refine lv_iconst (v := 0) hx hb d_Bl_runTimer_10 (by decide) ?_
  refine va_mmax hx hb (by rw [hml]; exact hl.1.symm) hown (hts _ lk_610) (hts _ is_Ma_maxI) (hts _ ok_Ma_maxI.2.1) (hts _ ok_Ma_maxI.1) (by decide) (Nat.le_of_ble_eq_true rfl) (Nat.zero_le _) (Nat.zero_le _) d_Bl_runTimer_11 ?_
  refine lv_istore (lv' := [(5, .int (if q7 < (0 : Int32) then (0 : Int32) else q7)), (0, .ref (ad 26)), (1, .int a0), (2, .int a1), (3, .int a2), (4, .int a3)]) hx hb d_Bl_runTimer_14 hl (by decide) rfl (fun ls hl => ?_)
  refine lv_aload_n hx hb d_Bl_runTimer_16 rfl (lv_at hl 1 rfl) ?_
  refine lv_iload_n hx hb d_Bl_runTimer_17 rfl (lv_at hl 3 rfl) ?_
  refine lv_iconst (v := 4) hx hb d_Bl_runTimer_18 (by decide) ?_
  refine lv_iadd hx hb d_Bl_runTimer_19 ?_
  obtain ⟨q8, hq8, h⟩ := Option.bind_eq_some_iff.mp h
  refine k_I (k_runV ⟨hx, hb, hml, hown, hts⟩ (c_Bl_isSet rfl hq8) ok_Bl_isSet is_Bl_isSet lk_611 rfl rfl ⟨by decide, by decide⟩ hP hK hD hS hA hz (ci := 8) (q0 := 26) rfl rfl ob_Bl rfl hl.1 rfl (Nat.le_of_ble_eq_true rfl) d_Bl_runTimer_20 ⟨Nat.zero_le _, Nat.zero_le _⟩) hD hS hA (fun H locs hP hD hS => ?_)
  refine lv_istore (lv' := [(6, .int q8), (5, .int (if q7 < (0 : Int32) then (0 : Int32) else q7)), (0, .ref (ad 26)), (1, .int a0), (2, .int a1), (3, .int a2), (4, .int a3)]) hx hb d_Bl_runTimer_23 hl (by decide) rfl (fun ls hl => ?_)
  refine lv_aload_n hx hb d_Bl_runTimer_25 rfl (lv_at hl 2 rfl) ?_
  refine rd_Bl_memory hx hb hts hown hK hP lk_178 d_Bl_runTimer_26 ?_
  refine lv_iload_n hx hb d_Bl_runTimer_29 rfl (lv_at hl 4 rfl) ?_
  refine lv_iconst (v := 3) hx hb d_Bl_runTimer_30 (by decide) ?_
  refine lv_iadd hx hb d_Bl_runTimer_31 ?_
  obtain ⟨q9, hq9, h⟩ := Option.bind_eq_some_iff.mp h
  refine k_I (k_runVN ⟨hx, hb, hml, hown, hts⟩ (c_Me_cell rfl hq9) ok_Me_cell is_Me_cell lk_605 rfl rfl ⟨by decide, by decide⟩ hP hK hD hS hA hz (ci := 6) (q0 := 19) rfl rfl ob_Me rfl hl.1 rfl (Nat.le_of_ble_eq_true rfl) d_Bl_runTimer_32 ⟨Nat.zero_le _, Nat.zero_le _⟩) hD hS hA (fun H locs hP hD hS => ?_)
  refine lv_i2l (v := q9.toInt64) hx hb d_Bl_runTimer_35 rfl ?_
  refine lv_iload hx hb d_Bl_runTimer_36 (lv_at hl 6 rfl) ?_
  refine lv_i2l (v := a3.toInt64) hx hb d_Bl_runTimer_38 rfl ?_
  refine lv_ladd hx hb d_Bl_runTimer_39 ?_
  refine lv_aload_n hx hb d_Bl_runTimer_40 rfl (lv_at hl 2 rfl) ?_
  refine rd_Bl_memory hx hb hts hown hK hP lk_178 d_Bl_runTimer_41 ?_
  refine lv_iload_n hx hb d_Bl_runTimer_44 rfl (lv_at hl 4 rfl) ?_
  refine lv_iconst (v := 5) hx hb d_Bl_runTimer_45 (by decide) ?_
  refine lv_iadd hx hb d_Bl_runTimer_46 ?_
  obtain ⟨q10, hq10, h⟩ := Option.bind_eq_some_iff.mp h
  refine k_I (k_runVN ⟨hx, hb, hml, hown, hts⟩ (c_Me_cell rfl hq10) ok_Me_cell is_Me_cell lk_605 rfl rfl ⟨by decide, by decide⟩ hP hK hD hS hA hz (ci := 6) (q0 := 19) rfl rfl ob_Me rfl hl.1 rfl (Nat.le_of_ble_eq_true rfl) d_Bl_runTimer_47 ⟨Nat.zero_le _, Nat.zero_le _⟩) hD hS hA (fun H locs hP hD hS => ?_)
  refine lv_i2l (v := q10.toInt64) hx hb d_Bl_runTimer_50 rfl ?_
  refine lv_lsub hx hb d_Bl_runTimer_51 ?_
  refine lv_lstore (lv' := [(7, .long ((q9.toInt64 + a3.toInt64) - q10.toInt64)), (6, .int q8), (5, .int (if q7 < (0 : Int32) then (0 : Int32) else q7)), (0, .ref (ad 26)), (1, .int a0), (2, .int a1), (3, .int a2), (4, .int a3)]) hx hb d_Bl_runTimer_52 hl (by decide) rfl (fun ls hl => ?_)
  refine lv_iload hx hb d_Bl_runTimer_54 (lv_at hl 2 rfl) ?_
  refine lv_i2l (v := (if q7 < (0 : Int32) then (0 : Int32) else q7).toInt64) hx hb d_Bl_runTimer_56 rfl ?_
  refine lv_lload hx hb d_Bl_runTimer_57 (lv_at hl 0 rfl) ?_
  refine va_mmin_long hx hb (by rw [hml]; exact hl.1.symm) hown (hts _ lk_615) (hts _ is_Ma_minJ) (hts _ ok_Ma_minJ.2.1) (hts _ ok_Ma_minJ.1) (by decide) (Nat.le_of_ble_eq_true rfl) (Nat.zero_le _) (Nat.zero_le _) d_Bl_runTimer_59 ?_
  refine lv_l2i (v := (if ((q9.toInt64 + a3.toInt64) - q10.toInt64) < (if q7 < (0 : Int32) then (0 : Int32) else q7).toInt64 then ((q9.toInt64 + a3.toInt64) - q10.toInt64) else (if q7 < (0 : Int32) then (0 : Int32) else q7).toInt64).toInt32) hx hb d_Bl_runTimer_62 rfl ?_
  refine lv_istore (lv' := [(9, .int (if ((q9.toInt64 + a3.toInt64) - q10.toInt64) < (if q7 < (0 : Int32) then (0 : Int32) else q7).toInt64 then ((q9.toInt64 + a3.toInt64) - q10.toInt64) else (if q7 < (0 : Int32) then (0 : Int32) else q7).toInt64).toInt32), (7, .long ((q9.toInt64 + a3.toInt64) - q10.toInt64)), (6, .int q8), (5, .int (if q7 < (0 : Int32) then (0 : Int32) else q7)), (0, .ref (ad 26)), (1, .int a0), (2, .int a1), (3, .int a2), (4, .int a3)]) hx hb d_Bl_runTimer_63 hl (by decide) rfl (fun ls hl => ?_)
  refine lv_iload_n hx hb d_Bl_runTimer_65 rfl (lv_at hl 5 rfl) ?_
  refine lv_if_ne (tgt := 124) hx hb d_Bl_runTimer_66 (by decide) (fun c11 => ?_) (fun c11 => ?_)
  · rw [if_neg c11] at h
    refine lv_iload_n hx hb d_Bl_runTimer_124 rfl (lv_at hl 5 rfl) ?_
    refine lv_iconst (v := 1) hx hb d_Bl_runTimer_125 (by decide) ?_
    refine lv_icmp_ne (tgt := 144) hx hb d_Bl_runTimer_126 (by decide) (fun c12 => ?_) (fun c12 => ?_)
    · rw [if_neg c12] at h
      refine lv_aload_n hx hb d_Bl_runTimer_144 rfl (lv_at hl 4 rfl) ?_
      refine lv_iload_n hx hb d_Bl_runTimer_145 rfl (lv_at hl 6 rfl) ?_
      refine lv_iload_n hx hb d_Bl_runTimer_146 rfl (lv_at hl 7 rfl) ?_
      refine lv_iload hx hb d_Bl_runTimer_147 (lv_at hl 2 rfl) ?_
      refine lv_iload hx hb d_Bl_runTimer_149 (lv_at hl 3 rfl) ?_
      refine lv_iload hx hb d_Bl_runTimer_151 (lv_at hl 0 rfl) ?_
      obtain ⟨q13, hq13, h⟩ := Option.bind_eq_some_iff.mp h
      refine k_V (k_runV ⟨hx, hb, hml, hown, hts⟩ (c_Bl_runPulse rfl hq13) ok_Bl_runPulse is_Bl_runPulse lk_627 rfl rfl ⟨by decide, by decide⟩ hP hK hD hS hA hz (ci := 8) (q0 := 26) rfl rfl ob_Bl rfl hl.1 rfl (Nat.le_of_ble_eq_true rfl) d_Bl_runTimer_153 ⟨Nat.zero_le _, Nat.zero_le _⟩) hD hS hA (fun H locs hP hD hS => ?_)
      cases h
      subst hQ
      exact k_vret hx hb hr hlk hP hK hD hS d_Bl_runTimer_156
    · rw [if_pos c12] at h
      refine lv_aload_n hx hb d_Bl_runTimer_129 rfl (lv_at hl 4 rfl) ?_
      refine lv_iload_n hx hb d_Bl_runTimer_130 rfl (lv_at hl 6 rfl) ?_
      refine lv_iload_n hx hb d_Bl_runTimer_131 rfl (lv_at hl 7 rfl) ?_
      refine lv_iload hx hb d_Bl_runTimer_132 (lv_at hl 2 rfl) ?_
      refine lv_iload hx hb d_Bl_runTimer_134 (lv_at hl 3 rfl) ?_
      refine lv_iload hx hb d_Bl_runTimer_136 (lv_at hl 0 rfl) ?_
      obtain ⟨q14, hq14, h⟩ := Option.bind_eq_some_iff.mp h
      refine k_V (k_runV ⟨hx, hb, hml, hown, hts⟩ (c_Bl_runOffDelay rfl hq14) ok_Bl_runOffDelay is_Bl_runOffDelay lk_623 rfl rfl ⟨by decide, by decide⟩ hP hK hD hS hA hz (ci := 8) (q0 := 26) rfl rfl ob_Bl rfl hl.1 rfl (Nat.le_of_ble_eq_true rfl) d_Bl_runTimer_138 ⟨Nat.zero_le _, Nat.zero_le _⟩) hD hS hA (fun H locs hP hD hS => ?_)
      refine lv_goto (tgt := 156) hx hb d_Bl_runTimer_141 (by decide) ?_
      cases h
      subst hQ
      exact k_vret hx hb hr hlk hP hK hD hS d_Bl_runTimer_156
  · rw [if_pos c11] at h
    refine lv_iload_n hx hb d_Bl_runTimer_69 rfl (lv_at hl 7 rfl) ?_
    refine lv_if_eq (tgt := 83) hx hb d_Bl_runTimer_70 (by decide) (fun c15 => ?_) (fun c15 => ?_)
    · rw [if_pos c15] at h
      exact J83 _ _ _ _ _ _ _ h hP hD hS (lv_sub hl [4, 6, 7, 3] rfl)
    · rw [if_neg c15] at h
      refine lv_iload hx hb d_Bl_runTimer_73 (lv_at hl 2 rfl) ?_
      refine lv_if_eq (tgt := 83) hx hb d_Bl_runTimer_75 (by decide) (fun c16 => ?_) (fun c16 => ?_)
      · rw [if_pos c16] at h
        exact J83 _ _ _ _ _ _ _ h hP hD hS (lv_sub hl [4, 6, 7, 3] rfl)
      · rw [if_neg c16] at h
        refine lv_iload hx hb d_Bl_runTimer_78 (lv_at hl 0 rfl) ?_
        refine lv_goto (tgt := 84) hx hb d_Bl_runTimer_80 (by decide) ?_
        exact J84 _ _ _ _ _ _ _ _ h hP hD hS (lv_sub hl [4, 6, 7, 3] rfl)
theorem d_Bl_runCounter_0 : decode b_Bl_runCounter 0 = .ok (.aload_n 0, 1) := by decide +kernel
theorem d_Bl_runCounter_1 : decode b_Bl_runCounter 1 = .ok (.iload_n 2, 1) := by decide +kernel
theorem d_Bl_runCounter_2 : decode b_Bl_runCounter 2 = .ok (.iconst 1, 1) := by decide +kernel
theorem d_Bl_runCounter_3 : decode b_Bl_runCounter 3 = .ok (.iadd, 1) := by decide +kernel
theorem d_Bl_runCounter_4 : decode b_Bl_runCounter 4 = .ok (.invokevirtual 31, 3) := by decide +kernel
theorem d_Bl_runCounter_7 : decode b_Bl_runCounter 7 = .ok (.istore 4, 2) := by decide +kernel
theorem d_Bl_runCounter_9 : decode b_Bl_runCounter 9 = .ok (.aload_n 0, 1) := by decide +kernel
theorem d_Bl_runCounter_10 : decode b_Bl_runCounter 10 = .ok (.getfield 7, 3) := by decide +kernel
theorem d_Bl_runCounter_13 : decode b_Bl_runCounter 13 = .ok (.iload_n 2, 1) := by decide +kernel
theorem d_Bl_runCounter_14 : decode b_Bl_runCounter 14 = .ok (.iconst 2, 1) := by decide +kernel
theorem d_Bl_runCounter_15 : decode b_Bl_runCounter 15 = .ok (.iadd, 1) := by decide +kernel
theorem d_Bl_runCounter_16 : decode b_Bl_runCounter 16 = .ok (.invokevirtual 13, 3) := by decide +kernel
theorem d_Bl_runCounter_19 : decode b_Bl_runCounter 19 = .ok (.istore 5, 2) := by decide +kernel
theorem d_Bl_runCounter_21 : decode b_Bl_runCounter 21 = .ok (.aload_n 0, 1) := by decide +kernel
theorem d_Bl_runCounter_22 : decode b_Bl_runCounter 22 = .ok (.getfield 7, 3) := by decide +kernel
theorem d_Bl_runCounter_25 : decode b_Bl_runCounter 25 = .ok (.iload_n 2, 1) := by decide +kernel
theorem d_Bl_runCounter_26 : decode b_Bl_runCounter 26 = .ok (.iconst 4, 1) := by decide +kernel
theorem d_Bl_runCounter_27 : decode b_Bl_runCounter 27 = .ok (.iadd, 1) := by decide +kernel
theorem d_Bl_runCounter_28 : decode b_Bl_runCounter 28 = .ok (.invokevirtual 13, 3) := by decide +kernel
theorem d_Bl_runCounter_31 : decode b_Bl_runCounter 31 = .ok (.istore 6, 2) := by decide +kernel
theorem d_Bl_runCounter_33 : decode b_Bl_runCounter 33 = .ok (.iload_n 1, 1) := by decide +kernel
theorem d_Bl_runCounter_34 : decode b_Bl_runCounter 34 = .ok (.iconst 3, 1) := by decide +kernel
theorem d_Bl_runCounter_35 : decode b_Bl_runCounter 35 = .ok (.if_icmp .ne 57, 3) := by decide +kernel
theorem d_Bl_runCounter_38 : decode b_Bl_runCounter 38 = .ok (.iload 4, 2) := by decide +kernel
theorem d_Bl_runCounter_40 : decode b_Bl_runCounter 40 = .ok (.ifCond .eq 7, 3) := by decide +kernel
theorem d_Bl_runCounter_43 : decode b_Bl_runCounter 43 = .ok (.iconst 0, 1) := by decide +kernel
theorem d_Bl_runCounter_44 : decode b_Bl_runCounter 44 = .ok (.goto 24, 3) := by decide +kernel
theorem d_Bl_runCounter_47 : decode b_Bl_runCounter 47 = .ok (.iload_n 3, 1) := by decide +kernel
theorem d_Bl_runCounter_48 : decode b_Bl_runCounter 48 = .ok (.ifCond .eq 18, 3) := by decide +kernel
theorem d_Bl_runCounter_51 : decode b_Bl_runCounter 51 = .ok (.iload 6, 2) := by decide +kernel
theorem d_Bl_runCounter_53 : decode b_Bl_runCounter 53 = .ok (.sipush 32767, 3) := by decide +kernel
theorem d_Bl_runCounter_56 : decode b_Bl_runCounter 56 = .ok (.if_icmp .ge 10, 3) := by decide +kernel
theorem d_Bl_runCounter_59 : decode b_Bl_runCounter 59 = .ok (.iload 6, 2) := by decide +kernel
theorem d_Bl_runCounter_61 : decode b_Bl_runCounter 61 = .ok (.iconst 1, 1) := by decide +kernel
theorem d_Bl_runCounter_62 : decode b_Bl_runCounter 62 = .ok (.iadd, 1) := by decide +kernel
theorem d_Bl_runCounter_63 : decode b_Bl_runCounter 63 = .ok (.goto 5, 3) := by decide +kernel
theorem d_Bl_runCounter_66 : decode b_Bl_runCounter 66 = .ok (.iload 6, 2) := by decide +kernel
theorem d_Bl_runCounter_68 : decode b_Bl_runCounter 68 = .ok (.istore 6, 2) := by decide +kernel
theorem d_Bl_runCounter_70 : decode b_Bl_runCounter 70 = .ok (.aload_n 0, 1) := by decide +kernel
theorem d_Bl_runCounter_71 : decode b_Bl_runCounter 71 = .ok (.iload_n 2, 1) := by decide +kernel
theorem d_Bl_runCounter_72 : decode b_Bl_runCounter 72 = .ok (.iconst 3, 1) := by decide +kernel
theorem d_Bl_runCounter_73 : decode b_Bl_runCounter 73 = .ok (.iadd, 1) := by decide +kernel
theorem d_Bl_runCounter_74 : decode b_Bl_runCounter 74 = .ok (.iload 6, 2) := by decide +kernel
theorem d_Bl_runCounter_76 : decode b_Bl_runCounter 76 = .ok (.iload 5, 2) := by decide +kernel
theorem d_Bl_runCounter_78 : decode b_Bl_runCounter 78 = .ok (.if_icmp .lt 7, 3) := by decide +kernel
theorem d_Bl_runCounter_81 : decode b_Bl_runCounter 81 = .ok (.iconst 1, 1) := by decide +kernel
theorem d_Bl_runCounter_82 : decode b_Bl_runCounter 82 = .ok (.goto 4, 3) := by decide +kernel
theorem d_Bl_runCounter_85 : decode b_Bl_runCounter 85 = .ok (.iconst 0, 1) := by decide +kernel
theorem d_Bl_runCounter_86 : decode b_Bl_runCounter 86 = .ok (.invokevirtual 23, 3) := by decide +kernel
theorem d_Bl_runCounter_89 : decode b_Bl_runCounter 89 = .ok (.goto 53, 3) := by decide +kernel
theorem d_Bl_runCounter_92 : decode b_Bl_runCounter 92 = .ok (.iload 4, 2) := by decide +kernel
theorem d_Bl_runCounter_94 : decode b_Bl_runCounter 94 = .ok (.ifCond .eq 8, 3) := by decide +kernel
theorem d_Bl_runCounter_97 : decode b_Bl_runCounter 97 = .ok (.iload 5, 2) := by decide +kernel
theorem d_Bl_runCounter_99 : decode b_Bl_runCounter 99 = .ok (.goto 24, 3) := by decide +kernel
theorem d_Bl_runCounter_102 : decode b_Bl_runCounter 102 = .ok (.iload_n 3, 1) := by decide +kernel
theorem d_Bl_runCounter_103 : decode b_Bl_runCounter 103 = .ok (.ifCond .eq 18, 3) := by decide +kernel
theorem d_Bl_runCounter_106 : decode b_Bl_runCounter 106 = .ok (.iload 6, 2) := by decide +kernel
theorem d_Bl_runCounter_108 : decode b_Bl_runCounter 108 = .ok (.sipush (-32768), 3) := by decide +kernel
theorem d_Bl_runCounter_111 : decode b_Bl_runCounter 111 = .ok (.if_icmp .le 10, 3) := by decide +kernel
theorem d_Bl_runCounter_114 : decode b_Bl_runCounter 114 = .ok (.iload 6, 2) := by decide +kernel
theorem d_Bl_runCounter_116 : decode b_Bl_runCounter 116 = .ok (.iconst 1, 1) := by decide +kernel
theorem d_Bl_runCounter_117 : decode b_Bl_runCounter 117 = .ok (.isub, 1) := by decide +kernel
theorem d_Bl_runCounter_118 : decode b_Bl_runCounter 118 = .ok (.goto 5, 3) := by decide +kernel
theorem d_Bl_runCounter_121 : decode b_Bl_runCounter 121 = .ok (.iload 6, 2) := by decide +kernel
theorem d_Bl_runCounter_123 : decode b_Bl_runCounter 123 = .ok (.istore 6, 2) := by decide +kernel
theorem d_Bl_runCounter_125 : decode b_Bl_runCounter 125 = .ok (.aload_n 0, 1) := by decide +kernel
theorem d_Bl_runCounter_126 : decode b_Bl_runCounter 126 = .ok (.iload_n 2, 1) := by decide +kernel
theorem d_Bl_runCounter_127 : decode b_Bl_runCounter 127 = .ok (.iconst 3, 1) := by decide +kernel
theorem d_Bl_runCounter_128 : decode b_Bl_runCounter 128 = .ok (.iadd, 1) := by decide +kernel
theorem d_Bl_runCounter_129 : decode b_Bl_runCounter 129 = .ok (.iload 6, 2) := by decide +kernel
theorem d_Bl_runCounter_131 : decode b_Bl_runCounter 131 = .ok (.ifCond .gt 7, 3) := by decide +kernel
theorem d_Bl_runCounter_134 : decode b_Bl_runCounter 134 = .ok (.iconst 1, 1) := by decide +kernel
theorem d_Bl_runCounter_135 : decode b_Bl_runCounter 135 = .ok (.goto 4, 3) := by decide +kernel
theorem d_Bl_runCounter_138 : decode b_Bl_runCounter 138 = .ok (.iconst 0, 1) := by decide +kernel
theorem d_Bl_runCounter_139 : decode b_Bl_runCounter 139 = .ok (.invokevirtual 23, 3) := by decide +kernel
theorem d_Bl_runCounter_142 : decode b_Bl_runCounter 142 = .ok (.aload_n 0, 1) := by decide +kernel
theorem d_Bl_runCounter_143 : decode b_Bl_runCounter 143 = .ok (.getfield 7, 3) := by decide +kernel
theorem d_Bl_runCounter_146 : decode b_Bl_runCounter 146 = .ok (.iload_n 2, 1) := by decide +kernel
theorem d_Bl_runCounter_147 : decode b_Bl_runCounter 147 = .ok (.iconst 4, 1) := by decide +kernel
theorem d_Bl_runCounter_148 : decode b_Bl_runCounter 148 = .ok (.iadd, 1) := by decide +kernel
theorem d_Bl_runCounter_149 : decode b_Bl_runCounter 149 = .ok (.iload 6, 2) := by decide +kernel
theorem d_Bl_runCounter_151 : decode b_Bl_runCounter 151 = .ok (.invokevirtual 27, 3) := by decide +kernel
theorem d_Bl_runCounter_154 : decode b_Bl_runCounter 154 = .ok (.return_, 1) := by decide +kernel
def r_Bl_runCounter_j142 (n : Nat)   (me : T_me) (x2 : Int32) (x6 : Int32) : Option (T_me) := (r_Me_change n me (x2 + (4 : Int32)) x6).bind (fun q1 => some (q1))
def r_Bl_runCounter_j139 (n : Nat)   (me : T_me) (x2 : Int32) (x6 : Int32) (y1 : Int32) (y2 : Int32) : Option (T_me) := (r_Bl_putFlag n me y1 y2).bind (fun q2 => r_Bl_runCounter_j142 n q2 x2 x6)
def r_Bl_runCounter_j123 (n : Nat)   (me : T_me) (x2 : Int32) (y0 : Int32) : Option (T_me) := if 0 < y0 then r_Bl_runCounter_j139 n me x2 y0 (x2 + (3 : Int32)) (0 : Int32) else r_Bl_runCounter_j139 n me x2 y0 (x2 + (3 : Int32)) (1 : Int32)
def r_Bl_runCounter_j121 (n : Nat)   (me : T_me) (x2 : Int32) (x6 : Int32) : Option (T_me) := r_Bl_runCounter_j123 n me x2 x6
def r_Bl_runCounter_j86 (n : Nat)   (me : T_me) (x2 : Int32) (x6 : Int32) (y1 : Int32) (y2 : Int32) : Option (T_me) := (r_Bl_putFlag n me y1 y2).bind (fun q4 => r_Bl_runCounter_j142 n q4 x2 x6)
def r_Bl_runCounter_j68 (n : Nat)   (me : T_me) (x2 : Int32) (x5 : Int32) (y0 : Int32) : Option (T_me) := if y0 < x5 then r_Bl_runCounter_j86 n me x2 y0 (x2 + (3 : Int32)) (0 : Int32) else r_Bl_runCounter_j86 n me x2 y0 (x2 + (3 : Int32)) (1 : Int32)
def r_Bl_runCounter_j66 (n : Nat)   (me : T_me) (x2 : Int32) (x5 : Int32) (x6 : Int32) : Option (T_me) := r_Bl_runCounter_j68 n me x2 x5 x6
def r_Bl_runCounter (n : Nat) (me : T_me) (a0 : Int32) (a1 : Int32) (a2 : Int32) : Option (T_me) := (r_Bl_isSet n me (a1 + (1 : Int32))).bind (fun q6 => (r_Me_cell n me (a1 + (2 : Int32))).bind (fun q7 => (r_Me_cell n me (a1 + (4 : Int32))).bind (fun q8 => if a0 = (3 : Int32) then if q6 = 0 then if a2 = 0 then r_Bl_runCounter_j66 n me a1 q7 q8 else if (32767 : Int32) ≤ q8 then r_Bl_runCounter_j66 n me a1 q7 q8 else r_Bl_runCounter_j68 n me a1 q7 (q8 + (1 : Int32)) else r_Bl_runCounter_j68 n me a1 q7 (0 : Int32) else if q6 = 0 then if a2 = 0 then r_Bl_runCounter_j121 n me a1 q8 else if q8 ≤ (-32768 : Int32) then r_Bl_runCounter_j121 n me a1 q8 else r_Bl_runCounter_j123 n me a1 (q8 - (1 : Int32)) else r_Bl_runCounter_j123 n me a1 q7)))
def rm_Bl_runCounter : Jvm.Room := { frames := 2, cells := 0, slots := 0, locals := 44 }
set_option maxHeartbeats 4000000 in
set_option maxRecDepth 100000 in
theorem c_Bl_runCounter {l : Launch} {D : va_G} {cI cL : ClassId} {ad : Nat → Nat} {ma : T_ma} {ko : T_ko} {sh : T_sh} {lo : T_lo} {de : T_de} {wa : T_wa} {me : T_me} {ru : T_ru} {ws0 : va_W} {sz n : Nat} {a0 : Int32} {a1 : Int32} {a2 : Int32} {me9 : T_me} (hw : ws0 = (wX cI cL ad ma ko sh lo de wa me ru)) (h : r_Bl_runCounter n me a0 a1 a2 = some me9) : Met l y_Bl_runCounter (Cond.code y_Bl_runCounter b_Bl_runCounter 7 none :: TB) rm_Bl_runCounter (PreW D clX (tyX cI cL) ws0 [.ref (ad 26), .int a0, .int a1, .int a2] sz) (PstV D clX (tyX cI cL) ws0 (wX cI cL ad ma ko sh lo de wa (me9) ru) sz) 0 0 (va_A ws0 sz) := by
  refine k_met (by decide) (Nat.le_of_ble_eq_true rfl) ?_
  intro p e s m below meth c ls hx hb hr hml hts hown hlk hnm hsz hP hK hD hA hz hl
  have hP : va_P D clX (wX cI cL ad ma ko sh lo de wa me ru) s.heap := by rw [← hw]; exact hP
  have hD : va_D (va_A ws0 sz) (wX cI cL ad ma ko sh lo de wa me ru) := by rw [← hw]; exact hD
  have hS : va_S (va_A ws0 sz) s.heap s.heap [] := va_S.rf
  have hl : lv_has ls 7 [(0, .ref (ad 26)), (1, .int a0), (2, .int a1), (3, .int a2)] := hl
  generalize hQ : MQ below (PstV D clX (tyX cI cL) ws0 (wX cI cL ad ma ko sh lo de wa (me9) ru) sz) [.ref (ad 26), .int a0, .int a1, .int a2].toArray s 0 0 (va_A ws0 sz) = Q
  have J142 : ∀ (me : T_me) (x2 : Int32) (x6 : Int32) (H : Heap) (locs : List Loc) (ls : Array Slot), r_Bl_runCounter_j142 n me x2 x6 = some me9 → va_P D clX (wX cI cL ad ma ko sh lo de wa me ru) H → va_D (va_A ws0 sz) (wX cI cL ad ma ko sh lo de wa me ru) → va_S (va_A ws0 sz) s.heap H locs → lv_has ls 7 [(0, .ref (ad 26)), (2, .int x2), (6, .int x6)] → W p l e rm_Bl_runCounter s m [.ref (ad 26), .int a0, .int a1, .int a2].toArray below meth c H locs 0 0 Q (F0 m 142 ls []) := by
    intro me x2 x6 H locs ls h hP hD hS hl
    unfold r_Bl_runCounter_j142 at h
    refine lv_aload_n hx hb d_Bl_runCounter_142 rfl (lv_at hl 0 rfl) ?_
    refine rd_Bl_memory hx hb hts hown hK hP lk_178 d_Bl_runCounter_143 ?_
    refine lv_iload_n hx hb d_Bl_runCounter_146 rfl (lv_at hl 1 rfl) ?_
    refine lv_iconst (v := 4) hx hb d_Bl_runCounter_147 (by decide) ?_
    refine lv_iadd hx hb d_Bl_runCounter_148 ?_
    refine lv_iload hx hb d_Bl_runCounter_149 (lv_at hl 2 rfl) ?_
    obtain ⟨q1, hq1, h⟩ := Option.bind_eq_some_iff.mp h
    refine k_V (k_runVN ⟨hx, hb, hml, hown, hts⟩ (c_Me_change rfl hq1) ok_Me_change is_Me_change lk_618 rfl rfl ⟨by decide, by decide⟩ hP hK hD hS hA hz (ci := 6) (q0 := 19) rfl rfl ob_Me rfl hl.1 rfl (Nat.le_of_ble_eq_true rfl) d_Bl_runCounter_151 ⟨Nat.zero_le _, Nat.zero_le _⟩) hD hS hA (fun H locs hP hD hS => ?_)
    cases h
    subst hQ
    exact k_vret hx hb hr hlk hP hK hD hS d_Bl_runCounter_154
  have J139 : ∀ (me : T_me) (x2 : Int32) (x6 : Int32) (y1 : Int32) (y2 : Int32) (H : Heap) (locs : List Loc) (ls : Array Slot), r_Bl_runCounter_j139 n me x2 x6 y1 y2 = some me9 → va_P D clX (wX cI cL ad ma ko sh lo de wa me ru) H → va_D (va_A ws0 sz) (wX cI cL ad ma ko sh lo de wa me ru) → va_S (va_A ws0 sz) s.heap H locs → lv_has ls 7 [(0, .ref (ad 26)), (2, .int x2), (6, .int x6)] → W p l e rm_Bl_runCounter s m [.ref (ad 26), .int a0, .int a1, .int a2].toArray below meth c H locs 0 0 Q (F0 m 139 ls [.int y2, .int y1, .ref (ad 26)]) := by
    intro me x2 x6 y1 y2 H locs ls h hP hD hS hl
    unfold r_Bl_runCounter_j139 at h
    obtain ⟨q2, hq2, h⟩ := Option.bind_eq_some_iff.mp h
    refine k_V (k_runV ⟨hx, hb, hml, hown, hts⟩ (c_Bl_putFlag rfl hq2) ok_Bl_putFlag is_Bl_putFlag lk_619 rfl rfl ⟨by decide, by decide⟩ hP hK hD hS hA hz (ci := 8) (q0 := 26) rfl rfl ob_Bl rfl hl.1 rfl (Nat.le_of_ble_eq_true rfl) d_Bl_runCounter_139 ⟨Nat.zero_le _, Nat.zero_le _⟩) hD hS hA (fun H locs hP hD hS => ?_)
    exact J142 _ _ _ _ _ _ h hP hD hS (lv_sub hl [0, 1, 2] rfl)
  have J123 : ∀ (me : T_me) (x2 : Int32) (y0 : Int32) (H : Heap) (locs : List Loc) (ls : Array Slot), r_Bl_runCounter_j123 n me x2 y0 = some me9 → va_P D clX (wX cI cL ad ma ko sh lo de wa me ru) H → va_D (va_A ws0 sz) (wX cI cL ad ma ko sh lo de wa me ru) → va_S (va_A ws0 sz) s.heap H locs → lv_has ls 7 [(0, .ref (ad 26)), (2, .int x2)] → W p l e rm_Bl_runCounter s m [.ref (ad 26), .int a0, .int a1, .int a2].toArray below meth c H locs 0 0 Q (F0 m 123 ls [.int y0]) := by
    intro me x2 y0 H locs ls h hP hD hS hl
    unfold r_Bl_runCounter_j123 at h
    refine lv_istore (lv' := [(6, .int y0), (0, .ref (ad 26)), (2, .int x2)]) hx hb d_Bl_runCounter_123 hl (by decide) rfl (fun ls hl => ?_)
    refine lv_aload_n hx hb d_Bl_runCounter_125 rfl (lv_at hl 1 rfl) ?_
    refine lv_iload_n hx hb d_Bl_runCounter_126 rfl (lv_at hl 2 rfl) ?_
    refine lv_iconst (v := 3) hx hb d_Bl_runCounter_127 (by decide) ?_
    refine lv_iadd hx hb d_Bl_runCounter_128 ?_
    refine lv_iload hx hb d_Bl_runCounter_129 (lv_at hl 0 rfl) ?_
    refine lv_if_gt (tgt := 138) hx hb d_Bl_runCounter_131 (by decide) (fun c3 => ?_) (fun c3 => ?_)
    · rw [if_pos c3] at h
      refine lv_iconst (v := 0) hx hb d_Bl_runCounter_138 (by decide) ?_
      exact J139 _ _ _ _ _ _ _ _ h hP hD hS (lv_sub hl [1, 2, 0] rfl)
    · rw [if_neg c3] at h
      refine lv_iconst (v := 1) hx hb d_Bl_runCounter_134 (by decide) ?_
      refine lv_goto (tgt := 139) hx hb d_Bl_runCounter_135 (by decide) ?_
      exact J139 _ _ _ _ _ _ _ _ h hP hD hS (lv_sub hl [1, 2, 0] rfl)
  have J121 : ∀ (me : T_me) (x2 : Int32) (x6 : Int32) (H : Heap) (locs : List Loc) (ls : Array Slot), r_Bl_runCounter_j121 n me x2 x6 = some me9 → va_P D clX (wX cI cL ad ma ko sh lo de wa me ru) H → va_D (va_A ws0 sz) (wX cI cL ad ma ko sh lo de wa me ru) → va_S (va_A ws0 sz) s.heap H locs → lv_has ls 7 [(0, .ref (ad 26)), (2, .int x2), (6, .int x6)] → W p l e rm_Bl_runCounter s m [.ref (ad 26), .int a0, .int a1, .int a2].toArray below meth c H locs 0 0 Q (F0 m 121 ls []) := by
    intro me x2 x6 H locs ls h hP hD hS hl
    unfold r_Bl_runCounter_j121 at h
    refine lv_iload hx hb d_Bl_runCounter_121 (lv_at hl 2 rfl) ?_
    exact J123 _ _ _ _ _ _ h hP hD hS (lv_sub hl [0, 1] rfl)
  have J86 : ∀ (me : T_me) (x2 : Int32) (x6 : Int32) (y1 : Int32) (y2 : Int32) (H : Heap) (locs : List Loc) (ls : Array Slot), r_Bl_runCounter_j86 n me x2 x6 y1 y2 = some me9 → va_P D clX (wX cI cL ad ma ko sh lo de wa me ru) H → va_D (va_A ws0 sz) (wX cI cL ad ma ko sh lo de wa me ru) → va_S (va_A ws0 sz) s.heap H locs → lv_has ls 7 [(0, .ref (ad 26)), (2, .int x2), (6, .int x6)] → W p l e rm_Bl_runCounter s m [.ref (ad 26), .int a0, .int a1, .int a2].toArray below meth c H locs 0 0 Q (F0 m 86 ls [.int y2, .int y1, .ref (ad 26)]) := by
    intro me x2 x6 y1 y2 H locs ls h hP hD hS hl
    unfold r_Bl_runCounter_j86 at h
    obtain ⟨q4, hq4, h⟩ := Option.bind_eq_some_iff.mp h
    refine k_V (k_runV ⟨hx, hb, hml, hown, hts⟩ (c_Bl_putFlag rfl hq4) ok_Bl_putFlag is_Bl_putFlag lk_619 rfl rfl ⟨by decide, by decide⟩ hP hK hD hS hA hz (ci := 8) (q0 := 26) rfl rfl ob_Bl rfl hl.1 rfl (Nat.le_of_ble_eq_true rfl) d_Bl_runCounter_86 ⟨Nat.zero_le _, Nat.zero_le _⟩) hD hS hA (fun H locs hP hD hS => ?_)
    refine lv_goto (tgt := 142) hx hb d_Bl_runCounter_89 (by decide) ?_
    exact J142 _ _ _ _ _ _ h hP hD hS (lv_sub hl [0, 1, 2] rfl)
  have J68 : ∀ (me : T_me) (x2 : Int32) (x5 : Int32) (y0 : Int32) (H : Heap) (locs : List Loc) (ls : Array Slot), r_Bl_runCounter_j68 n me x2 x5 y0 = some me9 → va_P D clX (wX cI cL ad ma ko sh lo de wa me ru) H → va_D (va_A ws0 sz) (wX cI cL ad ma ko sh lo de wa me ru) → va_S (va_A ws0 sz) s.heap H locs → lv_has ls 7 [(0, .ref (ad 26)), (2, .int x2), (5, .int x5)] → W p l e rm_Bl_runCounter s m [.ref (ad 26), .int a0, .int a1, .int a2].toArray below meth c H locs 0 0 Q (F0 m 68 ls [.int y0]) := by
    intro me x2 x5 y0 H locs ls h hP hD hS hl
    unfold r_Bl_runCounter_j68 at h
    refine lv_istore (lv' := [(6, .int y0), (0, .ref (ad 26)), (2, .int x2), (5, .int x5)]) hx hb d_Bl_runCounter_68 hl (by decide) rfl (fun ls hl => ?_)
    refine lv_aload_n hx hb d_Bl_runCounter_70 rfl (lv_at hl 1 rfl) ?_
    refine lv_iload_n hx hb d_Bl_runCounter_71 rfl (lv_at hl 2 rfl) ?_
    refine lv_iconst (v := 3) hx hb d_Bl_runCounter_72 (by decide) ?_
    refine lv_iadd hx hb d_Bl_runCounter_73 ?_
    refine lv_iload hx hb d_Bl_runCounter_74 (lv_at hl 0 rfl) ?_
    refine lv_iload hx hb d_Bl_runCounter_76 (lv_at hl 3 rfl) ?_
    refine lv_icmp_lt (tgt := 85) hx hb d_Bl_runCounter_78 (by decide) (fun c5 => ?_) (fun c5 => ?_)
    · rw [if_pos c5] at h
      refine lv_iconst (v := 0) hx hb d_Bl_runCounter_85 (by decide) ?_
      exact J86 _ _ _ _ _ _ _ _ h hP hD hS (lv_sub hl [1, 2, 0] rfl)
    · rw [if_neg c5] at h
      refine lv_iconst (v := 1) hx hb d_Bl_runCounter_81 (by decide) ?_
      refine lv_goto (tgt := 86) hx hb d_Bl_runCounter_82 (by decide) ?_
      exact J86 _ _ _ _ _ _ _ _ h hP hD hS (lv_sub hl [1, 2, 0] rfl)
  have J66 : ∀ (me : T_me) (x2 : Int32) (x5 : Int32) (x6 : Int32) (H : Heap) (locs : List Loc) (ls : Array Slot), r_Bl_runCounter_j66 n me x2 x5 x6 = some me9 → va_P D clX (wX cI cL ad ma ko sh lo de wa me ru) H → va_D (va_A ws0 sz) (wX cI cL ad ma ko sh lo de wa me ru) → va_S (va_A ws0 sz) s.heap H locs → lv_has ls 7 [(0, .ref (ad 26)), (2, .int x2), (5, .int x5), (6, .int x6)] → W p l e rm_Bl_runCounter s m [.ref (ad 26), .int a0, .int a1, .int a2].toArray below meth c H locs 0 0 Q (F0 m 66 ls []) := by
    intro me x2 x5 x6 H locs ls h hP hD hS hl
    unfold r_Bl_runCounter_j66 at h
    refine lv_iload hx hb d_Bl_runCounter_66 (lv_at hl 3 rfl) ?_
    exact J68 _ _ _ _ _ _ _ h hP hD hS (lv_sub hl [0, 1, 2] rfl)
  unfold r_Bl_runCounter at h
  refine lv_aload_n hx hb d_Bl_runCounter_0 rfl (lv_at hl 0 rfl) ?_
  refine lv_iload_n hx hb d_Bl_runCounter_1 rfl (lv_at hl 2 rfl) ?_
  refine lv_iconst (v := 1) hx hb d_Bl_runCounter_2 (by decide) ?_
  refine lv_iadd hx hb d_Bl_runCounter_3 ?_
  obtain ⟨q6, hq6, h⟩ := Option.bind_eq_some_iff.mp h
  refine k_I (k_runV ⟨hx, hb, hml, hown, hts⟩ (c_Bl_isSet rfl hq6) ok_Bl_isSet is_Bl_isSet lk_611 rfl rfl ⟨by decide, by decide⟩ hP hK hD hS hA hz (ci := 8) (q0 := 26) rfl rfl ob_Bl rfl hl.1 rfl (Nat.le_of_ble_eq_true rfl) d_Bl_runCounter_4 ⟨Nat.zero_le _, Nat.zero_le _⟩) hD hS hA (fun H locs hP hD hS => ?_)
  refine lv_istore (lv' := [(4, .int q6), (0, .ref (ad 26)), (1, .int a0), (2, .int a1), (3, .int a2)]) hx hb d_Bl_runCounter_7 hl (by decide) rfl (fun ls hl => ?_)
  refine lv_aload_n hx hb d_Bl_runCounter_9 rfl (lv_at hl 1 rfl) ?_
  refine rd_Bl_memory hx hb hts hown hK hP lk_178 d_Bl_runCounter_10 ?_
  refine lv_iload_n hx hb d_Bl_runCounter_13 rfl (lv_at hl 3 rfl) ?_
  refine lv_iconst (v := 2) hx hb d_Bl_runCounter_14 (by decide) ?_
  refine lv_iadd hx hb d_Bl_runCounter_15 ?_
  obtain ⟨q7, hq7, h⟩ := Option.bind_eq_some_iff.mp h
  refine k_I (k_runVN ⟨hx, hb, hml, hown, hts⟩ (c_Me_cell rfl hq7) ok_Me_cell is_Me_cell lk_605 rfl rfl ⟨by decide, by decide⟩ hP hK hD hS hA hz (ci := 6) (q0 := 19) rfl rfl ob_Me rfl hl.1 rfl (Nat.le_of_ble_eq_true rfl) d_Bl_runCounter_16 ⟨Nat.zero_le _, Nat.zero_le _⟩) hD hS hA (fun H locs hP hD hS => ?_)
  refine lv_istore (lv' := [(5, .int q7), (4, .int q6), (0, .ref (ad 26)), (1, .int a0), (2, .int a1), (3, .int a2)]) hx hb d_Bl_runCounter_19 hl (by decide) rfl (fun ls hl => ?_)
  refine lv_aload_n hx hb d_Bl_runCounter_21 rfl (lv_at hl 2 rfl) ?_
  refine rd_Bl_memory hx hb hts hown hK hP lk_178 d_Bl_runCounter_22 ?_
  refine lv_iload_n hx hb d_Bl_runCounter_25 rfl (lv_at hl 4 rfl) ?_
  refine lv_iconst (v := 4) hx hb d_Bl_runCounter_26 (by decide) ?_
  refine lv_iadd hx hb d_Bl_runCounter_27 ?_
  obtain ⟨q8, hq8, h⟩ := Option.bind_eq_some_iff.mp h
  refine k_I (k_runVN ⟨hx, hb, hml, hown, hts⟩ (c_Me_cell rfl hq8) ok_Me_cell is_Me_cell lk_605 rfl rfl ⟨by decide, by decide⟩ hP hK hD hS hA hz (ci := 6) (q0 := 19) rfl rfl ob_Me rfl hl.1 rfl (Nat.le_of_ble_eq_true rfl) d_Bl_runCounter_28 ⟨Nat.zero_le _, Nat.zero_le _⟩) hD hS hA (fun H locs hP hD hS => ?_)
  refine lv_istore (lv' := [(6, .int q8), (5, .int q7), (4, .int q6), (0, .ref (ad 26)), (1, .int a0), (2, .int a1), (3, .int a2)]) hx hb d_Bl_runCounter_31 hl (by decide) rfl (fun ls hl => ?_)
  refine lv_iload_n hx hb d_Bl_runCounter_33 rfl (lv_at hl 4 rfl) ?_
  refine lv_iconst (v := 3) hx hb d_Bl_runCounter_34 (by decide) ?_
  refine lv_icmp_ne (tgt := 92) hx hb d_Bl_runCounter_35 (by decide) (fun c9 => ?_) (fun c9 => ?_)
  · rw [if_neg c9] at h
    refine lv_iload hx hb d_Bl_runCounter_92 (lv_at hl 2 rfl) ?_
    refine lv_if_eq (tgt := 102) hx hb d_Bl_runCounter_94 (by decide) (fun c10 => ?_) (fun c10 => ?_)
    · rw [if_pos c10] at h
      refine lv_iload_n hx hb d_Bl_runCounter_102 rfl (lv_at hl 6 rfl) ?_
      refine lv_if_eq (tgt := 121) hx hb d_Bl_runCounter_103 (by decide) (fun c11 => ?_) (fun c11 => ?_)
      · rw [if_pos c11] at h
        exact J121 _ _ _ _ _ _ h hP hD hS (lv_sub hl [3, 5, 0] rfl)
      · rw [if_neg c11] at h
        refine lv_iload hx hb d_Bl_runCounter_106 (lv_at hl 0 rfl) ?_
        refine lv_sipush (v := -32768) hx hb d_Bl_runCounter_108 (by decide) ?_
        refine lv_icmp_le (tgt := 121) hx hb d_Bl_runCounter_111 (by decide) (fun c12 => ?_) (fun c12 => ?_)
        · rw [if_pos c12] at h
          exact J121 _ _ _ _ _ _ h hP hD hS (lv_sub hl [3, 5, 0] rfl)
        · rw [if_neg c12] at h
          refine lv_iload hx hb d_Bl_runCounter_114 (lv_at hl 0 rfl) ?_
          refine lv_iconst (v := 1) hx hb d_Bl_runCounter_116 (by decide) ?_
          refine lv_isub hx hb d_Bl_runCounter_117 ?_
          refine lv_goto (tgt := 123) hx hb d_Bl_runCounter_118 (by decide) ?_
          exact J123 _ _ _ _ _ _ h hP hD hS (lv_sub hl [3, 5] rfl)
    · rw [if_neg c10] at h
      refine lv_iload hx hb d_Bl_runCounter_97 (lv_at hl 1 rfl) ?_
      refine lv_goto (tgt := 123) hx hb d_Bl_runCounter_99 (by decide) ?_
      exact J123 _ _ _ _ _ _ h hP hD hS (lv_sub hl [3, 5] rfl)
  · rw [if_pos c9] at h
    refine lv_iload hx hb d_Bl_runCounter_38 (lv_at hl 2 rfl) ?_
    refine lv_if_eq (tgt := 47) hx hb d_Bl_runCounter_40 (by decide) (fun c13 => ?_) (fun c13 => ?_)
    · rw [if_pos c13] at h
      refine lv_iload_n hx hb d_Bl_runCounter_47 rfl (lv_at hl 6 rfl) ?_
      refine lv_if_eq (tgt := 66) hx hb d_Bl_runCounter_48 (by decide) (fun c14 => ?_) (fun c14 => ?_)
      · rw [if_pos c14] at h
        exact J66 _ _ _ _ _ _ _ h hP hD hS (lv_sub hl [3, 5, 1, 0] rfl)
      · rw [if_neg c14] at h
        refine lv_iload hx hb d_Bl_runCounter_51 (lv_at hl 0 rfl) ?_
        refine lv_sipush (v := 32767) hx hb d_Bl_runCounter_53 (by decide) ?_
        refine lv_icmp_ge (tgt := 66) hx hb d_Bl_runCounter_56 (by decide) (fun c15 => ?_) (fun c15 => ?_)
        · rw [if_pos c15] at h
          exact J66 _ _ _ _ _ _ _ h hP hD hS (lv_sub hl [3, 5, 1, 0] rfl)
        · rw [if_neg c15] at h
          refine lv_iload hx hb d_Bl_runCounter_59 (lv_at hl 0 rfl) ?_
          refine lv_iconst (v := 1) hx hb d_Bl_runCounter_61 (by decide) ?_
          refine lv_iadd hx hb d_Bl_runCounter_62 ?_
          refine lv_goto (tgt := 68) hx hb d_Bl_runCounter_63 (by decide) ?_
          exact J68 _ _ _ _ _ _ _ h hP hD hS (lv_sub hl [3, 5, 1] rfl)
    · rw [if_neg c13] at h
      refine lv_iconst (v := 0) hx hb d_Bl_runCounter_43 (by decide) ?_
      refine lv_goto (tgt := 68) hx hb d_Bl_runCounter_44 (by decide) ?_
      exact J68 _ _ _ _ _ _ _ h hP hD hS (lv_sub hl [3, 5, 1] rfl)
theorem d_Bl_runLatch_0 : decode b_Bl_runLatch 0 = .ok (.aload_n 0, 1) := by decide +kernel
theorem d_Bl_runLatch_1 : decode b_Bl_runLatch 1 = .ok (.iload_n 2, 1) := by decide +kernel
theorem d_Bl_runLatch_2 : decode b_Bl_runLatch 2 = .ok (.iconst 1, 1) := by decide +kernel
theorem d_Bl_runLatch_3 : decode b_Bl_runLatch 3 = .ok (.iadd, 1) := by decide +kernel
theorem d_Bl_runLatch_4 : decode b_Bl_runLatch 4 = .ok (.invokevirtual 31, 3) := by decide +kernel
theorem d_Bl_runLatch_7 : decode b_Bl_runLatch 7 = .ok (.istore 4, 2) := by decide +kernel
theorem d_Bl_runLatch_9 : decode b_Bl_runLatch 9 = .ok (.aload_n 0, 1) := by decide +kernel
theorem d_Bl_runLatch_10 : decode b_Bl_runLatch 10 = .ok (.iload_n 2, 1) := by decide +kernel
theorem d_Bl_runLatch_11 : decode b_Bl_runLatch 11 = .ok (.iconst 2, 1) := by decide +kernel
theorem d_Bl_runLatch_12 : decode b_Bl_runLatch 12 = .ok (.iadd, 1) := by decide +kernel
theorem d_Bl_runLatch_13 : decode b_Bl_runLatch 13 = .ok (.invokevirtual 31, 3) := by decide +kernel
theorem d_Bl_runLatch_16 : decode b_Bl_runLatch 16 = .ok (.istore 5, 2) := by decide +kernel
theorem d_Bl_runLatch_18 : decode b_Bl_runLatch 18 = .ok (.aload_n 0, 1) := by decide +kernel
theorem d_Bl_runLatch_19 : decode b_Bl_runLatch 19 = .ok (.iload_n 2, 1) := by decide +kernel
theorem d_Bl_runLatch_20 : decode b_Bl_runLatch 20 = .ok (.iconst 2, 1) := by decide +kernel
theorem d_Bl_runLatch_21 : decode b_Bl_runLatch 21 = .ok (.iadd, 1) := by decide +kernel
theorem d_Bl_runLatch_22 : decode b_Bl_runLatch 22 = .ok (.iload_n 1, 1) := by decide +kernel
theorem d_Bl_runLatch_23 : decode b_Bl_runLatch 23 = .ok (.bipush 7, 2) := by decide +kernel
theorem d_Bl_runLatch_25 : decode b_Bl_runLatch 25 = .ok (.if_icmp .ne 25, 3) := by decide +kernel
theorem d_Bl_runLatch_28 : decode b_Bl_runLatch 28 = .ok (.iload_n 3, 1) := by decide +kernel
theorem d_Bl_runLatch_29 : decode b_Bl_runLatch 29 = .ok (.ifCond .ne 13, 3) := by decide +kernel
theorem d_Bl_runLatch_32 : decode b_Bl_runLatch 32 = .ok (.iload 4, 2) := by decide +kernel
theorem d_Bl_runLatch_34 : decode b_Bl_runLatch 34 = .ok (.ifCond .ne 12, 3) := by decide +kernel
theorem d_Bl_runLatch_37 : decode b_Bl_runLatch 37 = .ok (.iload 5, 2) := by decide +kernel
theorem d_Bl_runLatch_39 : decode b_Bl_runLatch 39 = .ok (.ifCond .eq 7, 3) := by decide +kernel
theorem d_Bl_runLatch_42 : decode b_Bl_runLatch 42 = .ok (.iconst 1, 1) := by decide +kernel
theorem d_Bl_runLatch_43 : decode b_Bl_runLatch 43 = .ok (.goto 26, 3) := by decide +kernel
theorem d_Bl_runLatch_46 : decode b_Bl_runLatch 46 = .ok (.iconst 0, 1) := by decide +kernel
theorem d_Bl_runLatch_47 : decode b_Bl_runLatch 47 = .ok (.goto 22, 3) := by decide +kernel
theorem d_Bl_runLatch_50 : decode b_Bl_runLatch 50 = .ok (.iload 4, 2) := by decide +kernel
theorem d_Bl_runLatch_52 : decode b_Bl_runLatch 52 = .ok (.ifCond .ne 16, 3) := by decide +kernel
theorem d_Bl_runLatch_55 : decode b_Bl_runLatch 55 = .ok (.iload_n 3, 1) := by decide +kernel
theorem d_Bl_runLatch_56 : decode b_Bl_runLatch 56 = .ok (.ifCond .ne 8, 3) := by decide +kernel
theorem d_Bl_runLatch_59 : decode b_Bl_runLatch 59 = .ok (.iload 5, 2) := by decide +kernel
theorem d_Bl_runLatch_61 : decode b_Bl_runLatch 61 = .ok (.ifCond .eq 7, 3) := by decide +kernel
theorem d_Bl_runLatch_64 : decode b_Bl_runLatch 64 = .ok (.iconst 1, 1) := by decide +kernel
theorem d_Bl_runLatch_65 : decode b_Bl_runLatch 65 = .ok (.goto 4, 3) := by decide +kernel
theorem d_Bl_runLatch_68 : decode b_Bl_runLatch 68 = .ok (.iconst 0, 1) := by decide +kernel
theorem d_Bl_runLatch_69 : decode b_Bl_runLatch 69 = .ok (.invokevirtual 23, 3) := by decide +kernel
theorem d_Bl_runLatch_72 : decode b_Bl_runLatch 72 = .ok (.return_, 1) := by decide +kernel
def r_Bl_runLatch (n : Nat) (me : T_me) (a0 : Int32) (a1 : Int32) (a2 : Int32) : Option (T_me) := (r_Bl_isSet n me (a1 + (1 : Int32))).bind (fun q1 => (r_Bl_isSet n me (a1 + (2 : Int32))).bind (fun q2 => if a0 = (7 : Int32) then if a2 = 0 then if q1 = 0 then if q2 = 0 then (r_Bl_putFlag n me (a1 + (2 : Int32)) (0 : Int32)).bind (fun q16 => some (q16)) else (r_Bl_putFlag n me (a1 + (2 : Int32)) (1 : Int32)).bind (fun q17 => some (q17)) else (r_Bl_putFlag n me (a1 + (2 : Int32)) (0 : Int32)).bind (fun q14 => some (q14)) else (r_Bl_putFlag n me (a1 + (2 : Int32)) (1 : Int32)).bind (fun q12 => some (q12)) else if q1 = 0 then if a2 = 0 then if q2 = 0 then (r_Bl_putFlag n me (a1 + (2 : Int32)) (0 : Int32)).bind (fun q9 => some (q9)) else (r_Bl_putFlag n me (a1 + (2 : Int32)) (1 : Int32)).bind (fun q10 => some (q10)) else (r_Bl_putFlag n me (a1 + (2 : Int32)) (1 : Int32)).bind (fun q7 => some (q7)) else (r_Bl_putFlag n me (a1 + (2 : Int32)) (0 : Int32)).bind (fun q5 => some (q5))))
def rm_Bl_runLatch : Jvm.Room := { frames := 2, cells := 0, slots := 0, locals := 44 }
set_option maxHeartbeats 4000000 in
set_option maxRecDepth 100000 in
theorem c_Bl_runLatch {l : Launch} {D : va_G} {cI cL : ClassId} {ad : Nat → Nat} {ma : T_ma} {ko : T_ko} {sh : T_sh} {lo : T_lo} {de : T_de} {wa : T_wa} {me : T_me} {ru : T_ru} {ws0 : va_W} {sz n : Nat} {a0 : Int32} {a1 : Int32} {a2 : Int32} {me9 : T_me} (hw : ws0 = (wX cI cL ad ma ko sh lo de wa me ru)) (h : r_Bl_runLatch n me a0 a1 a2 = some me9) : Met l y_Bl_runLatch (Cond.code y_Bl_runLatch b_Bl_runLatch 6 none :: TB) rm_Bl_runLatch (PreW D clX (tyX cI cL) ws0 [.ref (ad 26), .int a0, .int a1, .int a2] sz) (PstV D clX (tyX cI cL) ws0 (wX cI cL ad ma ko sh lo de wa (me9) ru) sz) 0 0 (va_A ws0 sz) := by
  refine k_met (by decide) (Nat.le_of_ble_eq_true rfl) ?_
  intro p e s m below meth c ls hx hb hr hml hts hown hlk hnm hsz hP hK hD hA hz hl
  have hP : va_P D clX (wX cI cL ad ma ko sh lo de wa me ru) s.heap := by rw [← hw]; exact hP
  have hD : va_D (va_A ws0 sz) (wX cI cL ad ma ko sh lo de wa me ru) := by rw [← hw]; exact hD
  have hS : va_S (va_A ws0 sz) s.heap s.heap [] := va_S.rf
  have hl : lv_has ls 6 [(0, .ref (ad 26)), (1, .int a0), (2, .int a1), (3, .int a2)] := hl
  generalize hQ : MQ below (PstV D clX (tyX cI cL) ws0 (wX cI cL ad ma ko sh lo de wa (me9) ru) sz) [.ref (ad 26), .int a0, .int a1, .int a2].toArray s 0 0 (va_A ws0 sz) = Q
  unfold r_Bl_runLatch at h
  refine lv_aload_n hx hb d_Bl_runLatch_0 rfl (lv_at hl 0 rfl) ?_
  refine lv_iload_n hx hb d_Bl_runLatch_1 rfl (lv_at hl 2 rfl) ?_
  refine lv_iconst (v := 1) hx hb d_Bl_runLatch_2 (by decide) ?_
  refine lv_iadd hx hb d_Bl_runLatch_3 ?_
  obtain ⟨q1, hq1, h⟩ := Option.bind_eq_some_iff.mp h
  refine k_I (k_runV ⟨hx, hb, hml, hown, hts⟩ (c_Bl_isSet rfl hq1) ok_Bl_isSet is_Bl_isSet lk_611 rfl rfl ⟨by decide, by decide⟩ hP hK hD hS hA hz (ci := 8) (q0 := 26) rfl rfl ob_Bl rfl hl.1 rfl (Nat.le_of_ble_eq_true rfl) d_Bl_runLatch_4 ⟨Nat.zero_le _, Nat.zero_le _⟩) hD hS hA (fun H locs hP hD hS => ?_)
  refine lv_istore (lv' := [(4, .int q1), (0, .ref (ad 26)), (1, .int a0), (2, .int a1), (3, .int a2)]) hx hb d_Bl_runLatch_7 hl (by decide) rfl (fun ls hl => ?_)
  refine lv_aload_n hx hb d_Bl_runLatch_9 rfl (lv_at hl 1 rfl) ?_
  refine lv_iload_n hx hb d_Bl_runLatch_10 rfl (lv_at hl 3 rfl) ?_
  refine lv_iconst (v := 2) hx hb d_Bl_runLatch_11 (by decide) ?_
  refine lv_iadd hx hb d_Bl_runLatch_12 ?_
  obtain ⟨q2, hq2, h⟩ := Option.bind_eq_some_iff.mp h
  refine k_I (k_runV ⟨hx, hb, hml, hown, hts⟩ (c_Bl_isSet rfl hq2) ok_Bl_isSet is_Bl_isSet lk_611 rfl rfl ⟨by decide, by decide⟩ hP hK hD hS hA hz (ci := 8) (q0 := 26) rfl rfl ob_Bl rfl hl.1 rfl (Nat.le_of_ble_eq_true rfl) d_Bl_runLatch_13 ⟨Nat.zero_le _, Nat.zero_le _⟩) hD hS hA (fun H locs hP hD hS => ?_)
  refine lv_istore (lv' := [(5, .int q2), (4, .int q1), (0, .ref (ad 26)), (1, .int a0), (2, .int a1), (3, .int a2)]) hx hb d_Bl_runLatch_16 hl (by decide) rfl (fun ls hl => ?_)
  refine lv_aload_n hx hb d_Bl_runLatch_18 rfl (lv_at hl 2 rfl) ?_
  refine lv_iload_n hx hb d_Bl_runLatch_19 rfl (lv_at hl 4 rfl) ?_
  refine lv_iconst (v := 2) hx hb d_Bl_runLatch_20 (by decide) ?_
  refine lv_iadd hx hb d_Bl_runLatch_21 ?_
  refine lv_iload_n hx hb d_Bl_runLatch_22 rfl (lv_at hl 3 rfl) ?_
  refine lv_bipush (v := 7) hx hb d_Bl_runLatch_23 (by decide) ?_
  refine lv_icmp_ne (tgt := 50) hx hb d_Bl_runLatch_25 (by decide) (fun c3 => ?_) (fun c3 => ?_)
  · rw [if_neg c3] at h
    refine lv_iload hx hb d_Bl_runLatch_50 (lv_at hl 1 rfl) ?_
    refine lv_if_ne (tgt := 68) hx hb d_Bl_runLatch_52 (by decide) (fun c4 => ?_) (fun c4 => ?_)
    · rw [if_neg c4] at h
      refine lv_iconst (v := 0) hx hb d_Bl_runLatch_68 (by decide) ?_
      obtain ⟨q5, hq5, h⟩ := Option.bind_eq_some_iff.mp h
      refine k_V (k_runV ⟨hx, hb, hml, hown, hts⟩ (c_Bl_putFlag rfl hq5) ok_Bl_putFlag is_Bl_putFlag lk_619 rfl rfl ⟨by decide, by decide⟩ hP hK hD hS hA hz (ci := 8) (q0 := 26) rfl rfl ob_Bl rfl hl.1 rfl (Nat.le_of_ble_eq_true rfl) d_Bl_runLatch_69 ⟨Nat.zero_le _, Nat.zero_le _⟩) hD hS hA (fun H locs hP hD hS => ?_)
      cases h
      subst hQ
      exact k_vret hx hb hr hlk hP hK hD hS d_Bl_runLatch_72
    · rw [if_pos c4] at h
      refine lv_iload_n hx hb d_Bl_runLatch_55 rfl (lv_at hl 5 rfl) ?_
      refine lv_if_ne (tgt := 64) hx hb d_Bl_runLatch_56 (by decide) (fun c6 => ?_) (fun c6 => ?_)
      · rw [if_neg c6] at h
        refine lv_iconst (v := 1) hx hb d_Bl_runLatch_64 (by decide) ?_
        refine lv_goto (tgt := 69) hx hb d_Bl_runLatch_65 (by decide) ?_
        obtain ⟨q7, hq7, h⟩ := Option.bind_eq_some_iff.mp h
        refine k_V (k_runV ⟨hx, hb, hml, hown, hts⟩ (c_Bl_putFlag rfl hq7) ok_Bl_putFlag is_Bl_putFlag lk_619 rfl rfl ⟨by decide, by decide⟩ hP hK hD hS hA hz (ci := 8) (q0 := 26) rfl rfl ob_Bl rfl hl.1 rfl (Nat.le_of_ble_eq_true rfl) d_Bl_runLatch_69 ⟨Nat.zero_le _, Nat.zero_le _⟩) hD hS hA (fun H locs hP hD hS => ?_)
        cases h
        subst hQ
        exact k_vret hx hb hr hlk hP hK hD hS d_Bl_runLatch_72
      · rw [if_pos c6] at h
        refine lv_iload hx hb d_Bl_runLatch_59 (lv_at hl 0 rfl) ?_
        refine lv_if_eq (tgt := 68) hx hb d_Bl_runLatch_61 (by decide) (fun c8 => ?_) (fun c8 => ?_)
        · rw [if_pos c8] at h
          refine lv_iconst (v := 0) hx hb d_Bl_runLatch_68 (by decide) ?_
          obtain ⟨q9, hq9, h⟩ := Option.bind_eq_some_iff.mp h
          refine k_V (k_runV ⟨hx, hb, hml, hown, hts⟩ (c_Bl_putFlag rfl hq9) ok_Bl_putFlag is_Bl_putFlag lk_619 rfl rfl ⟨by decide, by decide⟩ hP hK hD hS hA hz (ci := 8) (q0 := 26) rfl rfl ob_Bl rfl hl.1 rfl (Nat.le_of_ble_eq_true rfl) d_Bl_runLatch_69 ⟨Nat.zero_le _, Nat.zero_le _⟩) hD hS hA (fun H locs hP hD hS => ?_)
          cases h
          subst hQ
          exact k_vret hx hb hr hlk hP hK hD hS d_Bl_runLatch_72
        · rw [if_neg c8] at h
          refine lv_iconst (v := 1) hx hb d_Bl_runLatch_64 (by decide) ?_
          refine lv_goto (tgt := 69) hx hb d_Bl_runLatch_65 (by decide) ?_
          obtain ⟨q10, hq10, h⟩ := Option.bind_eq_some_iff.mp h
          refine k_V (k_runV ⟨hx, hb, hml, hown, hts⟩ (c_Bl_putFlag rfl hq10) ok_Bl_putFlag is_Bl_putFlag lk_619 rfl rfl ⟨by decide, by decide⟩ hP hK hD hS hA hz (ci := 8) (q0 := 26) rfl rfl ob_Bl rfl hl.1 rfl (Nat.le_of_ble_eq_true rfl) d_Bl_runLatch_69 ⟨Nat.zero_le _, Nat.zero_le _⟩) hD hS hA (fun H locs hP hD hS => ?_)
          cases h
          subst hQ
          exact k_vret hx hb hr hlk hP hK hD hS d_Bl_runLatch_72
  · rw [if_pos c3] at h
    refine lv_iload_n hx hb d_Bl_runLatch_28 rfl (lv_at hl 5 rfl) ?_
    refine lv_if_ne (tgt := 42) hx hb d_Bl_runLatch_29 (by decide) (fun c11 => ?_) (fun c11 => ?_)
    · rw [if_neg c11] at h
      refine lv_iconst (v := 1) hx hb d_Bl_runLatch_42 (by decide) ?_
      refine lv_goto (tgt := 69) hx hb d_Bl_runLatch_43 (by decide) ?_
      obtain ⟨q12, hq12, h⟩ := Option.bind_eq_some_iff.mp h
      refine k_V (k_runV ⟨hx, hb, hml, hown, hts⟩ (c_Bl_putFlag rfl hq12) ok_Bl_putFlag is_Bl_putFlag lk_619 rfl rfl ⟨by decide, by decide⟩ hP hK hD hS hA hz (ci := 8) (q0 := 26) rfl rfl ob_Bl rfl hl.1 rfl (Nat.le_of_ble_eq_true rfl) d_Bl_runLatch_69 ⟨Nat.zero_le _, Nat.zero_le _⟩) hD hS hA (fun H locs hP hD hS => ?_)
      cases h
      subst hQ
      exact k_vret hx hb hr hlk hP hK hD hS d_Bl_runLatch_72
    · rw [if_pos c11] at h
      refine lv_iload hx hb d_Bl_runLatch_32 (lv_at hl 1 rfl) ?_
      refine lv_if_ne (tgt := 46) hx hb d_Bl_runLatch_34 (by decide) (fun c13 => ?_) (fun c13 => ?_)
      · rw [if_neg c13] at h
        refine lv_iconst (v := 0) hx hb d_Bl_runLatch_46 (by decide) ?_
        refine lv_goto (tgt := 69) hx hb d_Bl_runLatch_47 (by decide) ?_
        obtain ⟨q14, hq14, h⟩ := Option.bind_eq_some_iff.mp h
        refine k_V (k_runV ⟨hx, hb, hml, hown, hts⟩ (c_Bl_putFlag rfl hq14) ok_Bl_putFlag is_Bl_putFlag lk_619 rfl rfl ⟨by decide, by decide⟩ hP hK hD hS hA hz (ci := 8) (q0 := 26) rfl rfl ob_Bl rfl hl.1 rfl (Nat.le_of_ble_eq_true rfl) d_Bl_runLatch_69 ⟨Nat.zero_le _, Nat.zero_le _⟩) hD hS hA (fun H locs hP hD hS => ?_)
        cases h
        subst hQ
        exact k_vret hx hb hr hlk hP hK hD hS d_Bl_runLatch_72
      · rw [if_pos c13] at h
        refine lv_iload hx hb d_Bl_runLatch_37 (lv_at hl 0 rfl) ?_
        refine lv_if_eq (tgt := 46) hx hb d_Bl_runLatch_39 (by decide) (fun c15 => ?_) (fun c15 => ?_)
        · rw [if_pos c15] at h
          refine lv_iconst (v := 0) hx hb d_Bl_runLatch_46 (by decide) ?_
          refine lv_goto (tgt := 69) hx hb d_Bl_runLatch_47 (by decide) ?_
          obtain ⟨q16, hq16, h⟩ := Option.bind_eq_some_iff.mp h
          refine k_V (k_runV ⟨hx, hb, hml, hown, hts⟩ (c_Bl_putFlag rfl hq16) ok_Bl_putFlag is_Bl_putFlag lk_619 rfl rfl ⟨by decide, by decide⟩ hP hK hD hS hA hz (ci := 8) (q0 := 26) rfl rfl ob_Bl rfl hl.1 rfl (Nat.le_of_ble_eq_true rfl) d_Bl_runLatch_69 ⟨Nat.zero_le _, Nat.zero_le _⟩) hD hS hA (fun H locs hP hD hS => ?_)
          cases h
          subst hQ
          exact k_vret hx hb hr hlk hP hK hD hS d_Bl_runLatch_72
        · rw [if_neg c15] at h
          refine lv_iconst (v := 1) hx hb d_Bl_runLatch_42 (by decide) ?_
          refine lv_goto (tgt := 69) hx hb d_Bl_runLatch_43 (by decide) ?_
          obtain ⟨q17, hq17, h⟩ := Option.bind_eq_some_iff.mp h
          refine k_V (k_runV ⟨hx, hb, hml, hown, hts⟩ (c_Bl_putFlag rfl hq17) ok_Bl_putFlag is_Bl_putFlag lk_619 rfl rfl ⟨by decide, by decide⟩ hP hK hD hS hA hz (ci := 8) (q0 := 26) rfl rfl ob_Bl rfl hl.1 rfl (Nat.le_of_ble_eq_true rfl) d_Bl_runLatch_69 ⟨Nat.zero_le _, Nat.zero_le _⟩) hD hS hA (fun H locs hP hD hS => ?_)
          cases h
          subst hQ
          exact k_vret hx hb hr hlk hP hK hD hS d_Bl_runLatch_72
theorem d_Bl_run_0 : decode b_Bl_run 0 = .ok (.aload_n 0, 1) := by decide +kernel
theorem d_Bl_run_1 : decode b_Bl_run 1 = .ok (.getfield 7, 3) := by decide +kernel
theorem d_Bl_run_4 : decode b_Bl_run 4 = .ok (.iload_n 2, 1) := by decide +kernel
theorem d_Bl_run_5 : decode b_Bl_run 5 = .ok (.invokevirtual 13, 3) := by decide +kernel
theorem d_Bl_run_8 : decode b_Bl_run 8 = .ok (.ifCond .eq 7, 3) := by decide +kernel
theorem d_Bl_run_11 : decode b_Bl_run 11 = .ok (.iconst 1, 1) := by decide +kernel
theorem d_Bl_run_12 : decode b_Bl_run 12 = .ok (.goto 4, 3) := by decide +kernel
theorem d_Bl_run_15 : decode b_Bl_run 15 = .ok (.iconst 0, 1) := by decide +kernel
theorem d_Bl_run_16 : decode b_Bl_run 16 = .ok (.istore 4, 2) := by decide +kernel
theorem d_Bl_run_18 : decode b_Bl_run 18 = .ok (.iload_n 1, 1) := by decide +kernel
theorem d_Bl_run_19 : decode b_Bl_run 19 = .ok (.iconst 2, 1) := by decide +kernel
theorem d_Bl_run_20 : decode b_Bl_run 20 = .ok (.if_icmp .gt 35, 3) := by decide +kernel
theorem d_Bl_run_23 : decode b_Bl_run 23 = .ok (.aload_n 0, 1) := by decide +kernel
theorem d_Bl_run_24 : decode b_Bl_run 24 = .ok (.iload_n 1, 1) := by decide +kernel
theorem d_Bl_run_25 : decode b_Bl_run 25 = .ok (.iload_n 2, 1) := by decide +kernel
theorem d_Bl_run_26 : decode b_Bl_run 26 = .ok (.iload 4, 2) := by decide +kernel
theorem d_Bl_run_28 : decode b_Bl_run 28 = .ok (.iload_n 3, 1) := by decide +kernel
theorem d_Bl_run_29 : decode b_Bl_run 29 = .ok (.invokevirtual 19, 3) := by decide +kernel
theorem d_Bl_run_32 : decode b_Bl_run 32 = .ok (.aload_n 0, 1) := by decide +kernel
theorem d_Bl_run_33 : decode b_Bl_run 33 = .ok (.iload_n 2, 1) := by decide +kernel
theorem d_Bl_run_34 : decode b_Bl_run 34 = .ok (.iconst 4, 1) := by decide +kernel
theorem d_Bl_run_35 : decode b_Bl_run 35 = .ok (.iadd, 1) := by decide +kernel
theorem d_Bl_run_36 : decode b_Bl_run 36 = .ok (.iload 4, 2) := by decide +kernel
theorem d_Bl_run_38 : decode b_Bl_run 38 = .ok (.invokevirtual 23, 3) := by decide +kernel
theorem d_Bl_run_41 : decode b_Bl_run 41 = .ok (.aload_n 0, 1) := by decide +kernel
theorem d_Bl_run_42 : decode b_Bl_run 42 = .ok (.getfield 7, 3) := by decide +kernel
theorem d_Bl_run_45 : decode b_Bl_run 45 = .ok (.iload_n 2, 1) := by decide +kernel
theorem d_Bl_run_46 : decode b_Bl_run 46 = .ok (.iconst 5, 1) := by decide +kernel
theorem d_Bl_run_47 : decode b_Bl_run 47 = .ok (.iadd, 1) := by decide +kernel
theorem d_Bl_run_48 : decode b_Bl_run 48 = .ok (.iload_n 3, 1) := by decide +kernel
theorem d_Bl_run_49 : decode b_Bl_run 49 = .ok (.invokevirtual 27, 3) := by decide +kernel
theorem d_Bl_run_52 : decode b_Bl_run 52 = .ok (.goto 126, 3) := by decide +kernel
theorem d_Bl_run_55 : decode b_Bl_run 55 = .ok (.iload_n 1, 1) := by decide +kernel
theorem d_Bl_run_56 : decode b_Bl_run 56 = .ok (.iconst 4, 1) := by decide +kernel
theorem d_Bl_run_57 : decode b_Bl_run 57 = .ok (.if_icmp .gt 41, 3) := by decide +kernel
theorem d_Bl_run_60 : decode b_Bl_run 60 = .ok (.aload_n 0, 1) := by decide +kernel
theorem d_Bl_run_61 : decode b_Bl_run 61 = .ok (.iload_n 1, 1) := by decide +kernel
theorem d_Bl_run_62 : decode b_Bl_run 62 = .ok (.iload_n 2, 1) := by decide +kernel
theorem d_Bl_run_63 : decode b_Bl_run 63 = .ok (.iload 4, 2) := by decide +kernel
theorem d_Bl_run_65 : decode b_Bl_run 65 = .ok (.ifCond .eq 17, 3) := by decide +kernel
theorem d_Bl_run_68 : decode b_Bl_run 68 = .ok (.aload_n 0, 1) := by decide +kernel
theorem d_Bl_run_69 : decode b_Bl_run 69 = .ok (.iload_n 2, 1) := by decide +kernel
theorem d_Bl_run_70 : decode b_Bl_run 70 = .ok (.iconst 5, 1) := by decide +kernel
theorem d_Bl_run_71 : decode b_Bl_run 71 = .ok (.iadd, 1) := by decide +kernel
theorem d_Bl_run_72 : decode b_Bl_run 72 = .ok (.invokevirtual 31, 3) := by decide +kernel
theorem d_Bl_run_75 : decode b_Bl_run 75 = .ok (.ifCond .ne 7, 3) := by decide +kernel
theorem d_Bl_run_78 : decode b_Bl_run 78 = .ok (.iconst 1, 1) := by decide +kernel
theorem d_Bl_run_79 : decode b_Bl_run 79 = .ok (.goto 4, 3) := by decide +kernel
theorem d_Bl_run_82 : decode b_Bl_run 82 = .ok (.iconst 0, 1) := by decide +kernel
theorem d_Bl_run_83 : decode b_Bl_run 83 = .ok (.invokevirtual 35, 3) := by decide +kernel
theorem d_Bl_run_86 : decode b_Bl_run 86 = .ok (.aload_n 0, 1) := by decide +kernel
theorem d_Bl_run_87 : decode b_Bl_run 87 = .ok (.iload_n 2, 1) := by decide +kernel
theorem d_Bl_run_88 : decode b_Bl_run 88 = .ok (.iconst 5, 1) := by decide +kernel
theorem d_Bl_run_89 : decode b_Bl_run 89 = .ok (.iadd, 1) := by decide +kernel
theorem d_Bl_run_90 : decode b_Bl_run 90 = .ok (.iload 4, 2) := by decide +kernel
theorem d_Bl_run_92 : decode b_Bl_run 92 = .ok (.invokevirtual 23, 3) := by decide +kernel
theorem d_Bl_run_95 : decode b_Bl_run 95 = .ok (.goto 83, 3) := by decide +kernel
theorem d_Bl_run_98 : decode b_Bl_run 98 = .ok (.iload_n 1, 1) := by decide +kernel
theorem d_Bl_run_99 : decode b_Bl_run 99 = .ok (.bipush 6, 2) := by decide +kernel
theorem d_Bl_run_101 : decode b_Bl_run 101 = .ok (.if_icmp .gt 69, 3) := by decide +kernel
theorem d_Bl_run_104 : decode b_Bl_run 104 = .ok (.aload_n 0, 1) := by decide +kernel
theorem d_Bl_run_105 : decode b_Bl_run 105 = .ok (.iload_n 2, 1) := by decide +kernel
theorem d_Bl_run_106 : decode b_Bl_run 106 = .ok (.iconst 2, 1) := by decide +kernel
theorem d_Bl_run_107 : decode b_Bl_run 107 = .ok (.iadd, 1) := by decide +kernel
theorem d_Bl_run_108 : decode b_Bl_run 108 = .ok (.invokevirtual 31, 3) := by decide +kernel
theorem d_Bl_run_111 : decode b_Bl_run 111 = .ok (.istore 5, 2) := by decide +kernel
theorem d_Bl_run_113 : decode b_Bl_run 113 = .ok (.aload_n 0, 1) := by decide +kernel
theorem d_Bl_run_114 : decode b_Bl_run 114 = .ok (.iload_n 2, 1) := by decide +kernel
theorem d_Bl_run_115 : decode b_Bl_run 115 = .ok (.iconst 1, 1) := by decide +kernel
theorem d_Bl_run_116 : decode b_Bl_run 116 = .ok (.iadd, 1) := by decide +kernel
theorem d_Bl_run_117 : decode b_Bl_run 117 = .ok (.iload_n 1, 1) := by decide +kernel
theorem d_Bl_run_118 : decode b_Bl_run 118 = .ok (.iconst 5, 1) := by decide +kernel
theorem d_Bl_run_119 : decode b_Bl_run 119 = .ok (.if_icmp .ne 21, 3) := by decide +kernel
theorem d_Bl_run_122 : decode b_Bl_run 122 = .ok (.iload 4, 2) := by decide +kernel
theorem d_Bl_run_124 : decode b_Bl_run 124 = .ok (.ifCond .eq 12, 3) := by decide +kernel
theorem d_Bl_run_127 : decode b_Bl_run 127 = .ok (.iload 5, 2) := by decide +kernel
theorem d_Bl_run_129 : decode b_Bl_run 129 = .ok (.ifCond .ne 7, 3) := by decide +kernel
theorem d_Bl_run_132 : decode b_Bl_run 132 = .ok (.iconst 1, 1) := by decide +kernel
theorem d_Bl_run_133 : decode b_Bl_run 133 = .ok (.goto 22, 3) := by decide +kernel
theorem d_Bl_run_136 : decode b_Bl_run 136 = .ok (.iconst 0, 1) := by decide +kernel
theorem d_Bl_run_137 : decode b_Bl_run 137 = .ok (.goto 18, 3) := by decide +kernel
theorem d_Bl_run_140 : decode b_Bl_run 140 = .ok (.iload 4, 2) := by decide +kernel
theorem d_Bl_run_142 : decode b_Bl_run 142 = .ok (.ifCond .ne 12, 3) := by decide +kernel
theorem d_Bl_run_145 : decode b_Bl_run 145 = .ok (.iload 5, 2) := by decide +kernel
theorem d_Bl_run_147 : decode b_Bl_run 147 = .ok (.ifCond .eq 7, 3) := by decide +kernel
theorem d_Bl_run_150 : decode b_Bl_run 150 = .ok (.iconst 1, 1) := by decide +kernel
theorem d_Bl_run_151 : decode b_Bl_run 151 = .ok (.goto 4, 3) := by decide +kernel
theorem d_Bl_run_154 : decode b_Bl_run 154 = .ok (.iconst 0, 1) := by decide +kernel
theorem d_Bl_run_155 : decode b_Bl_run 155 = .ok (.invokevirtual 23, 3) := by decide +kernel
theorem d_Bl_run_158 : decode b_Bl_run 158 = .ok (.aload_n 0, 1) := by decide +kernel
theorem d_Bl_run_159 : decode b_Bl_run 159 = .ok (.iload_n 2, 1) := by decide +kernel
theorem d_Bl_run_160 : decode b_Bl_run 160 = .ok (.iconst 2, 1) := by decide +kernel
theorem d_Bl_run_161 : decode b_Bl_run 161 = .ok (.iadd, 1) := by decide +kernel
theorem d_Bl_run_162 : decode b_Bl_run 162 = .ok (.iload 4, 2) := by decide +kernel
theorem d_Bl_run_164 : decode b_Bl_run 164 = .ok (.invokevirtual 23, 3) := by decide +kernel
theorem d_Bl_run_167 : decode b_Bl_run 167 = .ok (.goto 11, 3) := by decide +kernel
theorem d_Bl_run_170 : decode b_Bl_run 170 = .ok (.aload_n 0, 1) := by decide +kernel
theorem d_Bl_run_171 : decode b_Bl_run 171 = .ok (.iload_n 1, 1) := by decide +kernel
theorem d_Bl_run_172 : decode b_Bl_run 172 = .ok (.iload_n 2, 1) := by decide +kernel
theorem d_Bl_run_173 : decode b_Bl_run 173 = .ok (.iload 4, 2) := by decide +kernel
theorem d_Bl_run_175 : decode b_Bl_run 175 = .ok (.invokevirtual 39, 3) := by decide +kernel
theorem d_Bl_run_178 : decode b_Bl_run 178 = .ok (.return_, 1) := by decide +kernel
def r_Bl_run_j155 (n : Nat)   (me : T_me) (x2 : Int32) (x4 : Int32) (y1 : Int32) (y2 : Int32) : Option (T_me) := (r_Bl_putFlag n me y1 y2).bind (fun q1 => (r_Bl_putFlag n q1 (x2 + (2 : Int32)) x4).bind (fun q2 => some (q2)))
def r_Bl_run_j154 (n : Nat)   (me : T_me) (x2 : Int32) (x4 : Int32) (y1 : Int32) : Option (T_me) := r_Bl_run_j155 n me x2 x4 y1 (0 : Int32)
def r_Bl_run_j136 (n : Nat)   (me : T_me) (x2 : Int32) (x4 : Int32) (y1 : Int32) : Option (T_me) := r_Bl_run_j155 n me x2 x4 y1 (0 : Int32)
def r_Bl_run_j83 (n : Nat)   (me : T_me) (x2 : Int32) (x4 : Int32) (y1 : Int32) (y2 : Int32) (y3 : Int32) : Option (T_me) := (r_Bl_runCounter n me y1 y2 y3).bind (fun q3 => (r_Bl_putFlag n q3 (x2 + (5 : Int32)) x4).bind (fun q4 => some (q4)))
def r_Bl_run_j82 (n : Nat)   (me : T_me) (x2 : Int32) (x4 : Int32) (y1 : Int32) (y2 : Int32) : Option (T_me) := r_Bl_run_j83 n me x2 x4 y1 y2 (0 : Int32)
def r_Bl_run_j16 (n : Nat)   (me : T_me) (x1 : Int32) (x2 : Int32) (x3 : Int32) (y0 : Int32) : Option (T_me) := if (2 : Int32) < x1 then if (4 : Int32) < x1 then if (6 : Int32) < x1 then (r_Bl_runLatch n me x1 x2 y0).bind (fun q8 => some (q8)) else (r_Bl_isSet n me (x2 + (2 : Int32))).bind (fun q9 => if x1 = (5 : Int32) then if y0 = 0 then r_Bl_run_j136 n me x2 y0 (x2 + (1 : Int32)) else if q9 = 0 then r_Bl_run_j155 n me x2 y0 (x2 + (1 : Int32)) (1 : Int32) else r_Bl_run_j136 n me x2 y0 (x2 + (1 : Int32)) else if y0 = 0 then if q9 = 0 then r_Bl_run_j154 n me x2 y0 (x2 + (1 : Int32)) else r_Bl_run_j155 n me x2 y0 (x2 + (1 : Int32)) (1 : Int32) else r_Bl_run_j154 n me x2 y0 (x2 + (1 : Int32))) else if y0 = 0 then r_Bl_run_j82 n me x2 y0 x1 x2 else (r_Bl_isSet n me (x2 + (5 : Int32))).bind (fun q16 => if q16 = 0 then r_Bl_run_j83 n me x2 y0 x1 x2 (1 : Int32) else r_Bl_run_j82 n me x2 y0 x1 x2) else (r_Bl_runTimer n me x1 x2 y0 x3).bind (fun q18 => (r_Bl_putFlag n q18 (x2 + (4 : Int32)) y0).bind (fun q19 => (r_Me_change n q19 (x2 + (5 : Int32)) x3).bind (fun q20 => some (q20))))
def r_Bl_run (n : Nat) (me : T_me) (a0 : Int32) (a1 : Int32) (a2 : Int32) : Option (T_me) := (r_Me_cell n me a1).bind (fun q21 => if q21 = 0 then r_Bl_run_j16 n me a0 a1 a2 (0 : Int32) else r_Bl_run_j16 n me a0 a1 a2 (1 : Int32))
def rm_Bl_run : Jvm.Room := { frames := 4, cells := 0, slots := 0, locals := 99 }
set_option maxHeartbeats 4000000 in
set_option maxRecDepth 100000 in
theorem c_Bl_run {l : Launch} {D : va_G} {cI cL : ClassId} {ad : Nat → Nat} {ma : T_ma} {ko : T_ko} {sh : T_sh} {lo : T_lo} {de : T_de} {wa : T_wa} {me : T_me} {ru : T_ru} {ws0 : va_W} {sz n : Nat} {a0 : Int32} {a1 : Int32} {a2 : Int32} {me9 : T_me} (hw : ws0 = (wX cI cL ad ma ko sh lo de wa me ru)) (h : r_Bl_run n me a0 a1 a2 = some me9) : Met l y_Bl_run (Cond.code y_Bl_run b_Bl_run 6 none :: TB) rm_Bl_run (PreW D clX (tyX cI cL) ws0 [.ref (ad 26), .int a0, .int a1, .int a2] sz) (PstV D clX (tyX cI cL) ws0 (wX cI cL ad ma ko sh lo de wa (me9) ru) sz) 0 0 (va_A ws0 sz) := by
  refine k_met (by decide) (Nat.le_of_ble_eq_true rfl) ?_
  intro p e s m below meth c ls hx hb hr hml hts hown hlk hnm hsz hP hK hD hA hz hl
  have hP : va_P D clX (wX cI cL ad ma ko sh lo de wa me ru) s.heap := by rw [← hw]; exact hP
  have hD : va_D (va_A ws0 sz) (wX cI cL ad ma ko sh lo de wa me ru) := by rw [← hw]; exact hD
  have hS : va_S (va_A ws0 sz) s.heap s.heap [] := va_S.rf
  have hl : lv_has ls 6 [(0, .ref (ad 26)), (1, .int a0), (2, .int a1), (3, .int a2)] := hl
  generalize hQ : MQ below (PstV D clX (tyX cI cL) ws0 (wX cI cL ad ma ko sh lo de wa (me9) ru) sz) [.ref (ad 26), .int a0, .int a1, .int a2].toArray s 0 0 (va_A ws0 sz) = Q
  have J155 : ∀ (me : T_me) (x2 : Int32) (x4 : Int32) (y1 : Int32) (y2 : Int32) (H : Heap) (locs : List Loc) (ls : Array Slot), r_Bl_run_j155 n me x2 x4 y1 y2 = some me9 → va_P D clX (wX cI cL ad ma ko sh lo de wa me ru) H → va_D (va_A ws0 sz) (wX cI cL ad ma ko sh lo de wa me ru) → va_S (va_A ws0 sz) s.heap H locs → lv_has ls 6 [(0, .ref (ad 26)), (2, .int x2), (4, .int x4)] → W p l e rm_Bl_run s m [.ref (ad 26), .int a0, .int a1, .int a2].toArray below meth c H locs 0 0 Q (F0 m 155 ls [.int y2, .int y1, .ref (ad 26)]) := by
    intro me x2 x4 y1 y2 H locs ls h hP hD hS hl
    unfold r_Bl_run_j155 at h
    obtain ⟨q1, hq1, h⟩ := Option.bind_eq_some_iff.mp h
    refine k_V (k_runV ⟨hx, hb, hml, hown, hts⟩ (c_Bl_putFlag rfl hq1) ok_Bl_putFlag is_Bl_putFlag lk_619 rfl rfl ⟨by decide, by decide⟩ hP hK hD hS hA hz (ci := 8) (q0 := 26) rfl rfl ob_Bl rfl hl.1 rfl (Nat.le_of_ble_eq_true rfl) d_Bl_run_155 ⟨Nat.zero_le _, Nat.zero_le _⟩) hD hS hA (fun H locs hP hD hS => ?_)
    refine lv_aload_n hx hb d_Bl_run_158 rfl (lv_at hl 0 rfl) ?_
    refine lv_iload_n hx hb d_Bl_run_159 rfl (lv_at hl 1 rfl) ?_
    refine lv_iconst (v := 2) hx hb d_Bl_run_160 (by decide) ?_
    refine lv_iadd hx hb d_Bl_run_161 ?_
    refine lv_iload hx hb d_Bl_run_162 (lv_at hl 2 rfl) ?_
    obtain ⟨q2, hq2, h⟩ := Option.bind_eq_some_iff.mp h
    refine k_V (k_runV ⟨hx, hb, hml, hown, hts⟩ (c_Bl_putFlag rfl hq2) ok_Bl_putFlag is_Bl_putFlag lk_619 rfl rfl ⟨by decide, by decide⟩ hP hK hD hS hA hz (ci := 8) (q0 := 26) rfl rfl ob_Bl rfl hl.1 rfl (Nat.le_of_ble_eq_true rfl) d_Bl_run_164 ⟨Nat.zero_le _, Nat.zero_le _⟩) hD hS hA (fun H locs hP hD hS => ?_)
    refine lv_goto (tgt := 178) hx hb d_Bl_run_167 (by decide) ?_
    cases h
    subst hQ
    exact k_vret hx hb hr hlk hP hK hD hS d_Bl_run_178
  have J154 : ∀ (me : T_me) (x2 : Int32) (x4 : Int32) (y1 : Int32) (H : Heap) (locs : List Loc) (ls : Array Slot), r_Bl_run_j154 n me x2 x4 y1 = some me9 → va_P D clX (wX cI cL ad ma ko sh lo de wa me ru) H → va_D (va_A ws0 sz) (wX cI cL ad ma ko sh lo de wa me ru) → va_S (va_A ws0 sz) s.heap H locs → lv_has ls 6 [(0, .ref (ad 26)), (2, .int x2), (4, .int x4)] → W p l e rm_Bl_run s m [.ref (ad 26), .int a0, .int a1, .int a2].toArray below meth c H locs 0 0 Q (F0 m 154 ls [.int y1, .ref (ad 26)]) := by
    intro me x2 x4 y1 H locs ls h hP hD hS hl
    unfold r_Bl_run_j154 at h
    refine lv_iconst (v := 0) hx hb d_Bl_run_154 (by decide) ?_
    exact J155 _ _ _ _ _ _ _ _ h hP hD hS (lv_sub hl [0, 1, 2] rfl)
  have J136 : ∀ (me : T_me) (x2 : Int32) (x4 : Int32) (y1 : Int32) (H : Heap) (locs : List Loc) (ls : Array Slot), r_Bl_run_j136 n me x2 x4 y1 = some me9 → va_P D clX (wX cI cL ad ma ko sh lo de wa me ru) H → va_D (va_A ws0 sz) (wX cI cL ad ma ko sh lo de wa me ru) → va_S (va_A ws0 sz) s.heap H locs → lv_has ls 6 [(0, .ref (ad 26)), (2, .int x2), (4, .int x4)] → W p l e rm_Bl_run s m [.ref (ad 26), .int a0, .int a1, .int a2].toArray below meth c H locs 0 0 Q (F0 m 136 ls [.int y1, .ref (ad 26)]) := by
    intro me x2 x4 y1 H locs ls h hP hD hS hl
    unfold r_Bl_run_j136 at h
    refine lv_iconst (v := 0) hx hb d_Bl_run_136 (by decide) ?_
    refine lv_goto (tgt := 155) hx hb d_Bl_run_137 (by decide) ?_
    exact J155 _ _ _ _ _ _ _ _ h hP hD hS (lv_sub hl [0, 1, 2] rfl)
  have J83 : ∀ (me : T_me) (x2 : Int32) (x4 : Int32) (y1 : Int32) (y2 : Int32) (y3 : Int32) (H : Heap) (locs : List Loc) (ls : Array Slot), r_Bl_run_j83 n me x2 x4 y1 y2 y3 = some me9 → va_P D clX (wX cI cL ad ma ko sh lo de wa me ru) H → va_D (va_A ws0 sz) (wX cI cL ad ma ko sh lo de wa me ru) → va_S (va_A ws0 sz) s.heap H locs → lv_has ls 6 [(0, .ref (ad 26)), (2, .int x2), (4, .int x4)] → W p l e rm_Bl_run s m [.ref (ad 26), .int a0, .int a1, .int a2].toArray below meth c H locs 0 0 Q (F0 m 83 ls [.int y3, .int y2, .int y1, .ref (ad 26)]) := by
    intro me x2 x4 y1 y2 y3 H locs ls h hP hD hS hl
    unfold r_Bl_run_j83 at h
    obtain ⟨q3, hq3, h⟩ := Option.bind_eq_some_iff.mp h
    refine k_V (k_runV ⟨hx, hb, hml, hown, hts⟩ (c_Bl_runCounter rfl hq3) ok_Bl_runCounter is_Bl_runCounter lk_631 rfl rfl ⟨by decide, by decide⟩ hP hK hD hS hA hz (ci := 8) (q0 := 26) rfl rfl ob_Bl rfl hl.1 rfl (Nat.le_of_ble_eq_true rfl) d_Bl_run_83 ⟨Nat.zero_le _, Nat.zero_le _⟩) hD hS hA (fun H locs hP hD hS => ?_)
    refine lv_aload_n hx hb d_Bl_run_86 rfl (lv_at hl 0 rfl) ?_
    refine lv_iload_n hx hb d_Bl_run_87 rfl (lv_at hl 1 rfl) ?_
    refine lv_iconst (v := 5) hx hb d_Bl_run_88 (by decide) ?_
    refine lv_iadd hx hb d_Bl_run_89 ?_
    refine lv_iload hx hb d_Bl_run_90 (lv_at hl 2 rfl) ?_
    obtain ⟨q4, hq4, h⟩ := Option.bind_eq_some_iff.mp h
    refine k_V (k_runV ⟨hx, hb, hml, hown, hts⟩ (c_Bl_putFlag rfl hq4) ok_Bl_putFlag is_Bl_putFlag lk_619 rfl rfl ⟨by decide, by decide⟩ hP hK hD hS hA hz (ci := 8) (q0 := 26) rfl rfl ob_Bl rfl hl.1 rfl (Nat.le_of_ble_eq_true rfl) d_Bl_run_92 ⟨Nat.zero_le _, Nat.zero_le _⟩) hD hS hA (fun H locs hP hD hS => ?_)
    refine lv_goto (tgt := 178) hx hb d_Bl_run_95 (by decide) ?_
    cases h
    subst hQ
    exact k_vret hx hb hr hlk hP hK hD hS d_Bl_run_178
  have J82 : ∀ (me : T_me) (x2 : Int32) (x4 : Int32) (y1 : Int32) (y2 : Int32) (H : Heap) (locs : List Loc) (ls : Array Slot), r_Bl_run_j82 n me x2 x4 y1 y2 = some me9 → va_P D clX (wX cI cL ad ma ko sh lo de wa me ru) H → va_D (va_A ws0 sz) (wX cI cL ad ma ko sh lo de wa me ru) → va_S (va_A ws0 sz) s.heap H locs → lv_has ls 6 [(0, .ref (ad 26)), (2, .int x2), (4, .int x4)] → W p l e rm_Bl_run s m [.ref (ad 26), .int a0, .int a1, .int a2].toArray below meth c H locs 0 0 Q (F0 m 82 ls [.int y2, .int y1, .ref (ad 26)]) := by
    intro me x2 x4 y1 y2 H locs ls h hP hD hS hl
    unfold r_Bl_run_j82 at h
    refine lv_iconst (v := 0) hx hb d_Bl_run_82 (by decide) ?_
    exact J83 _ _ _ _ _ _ _ _ _ h hP hD hS (lv_sub hl [0, 1, 2] rfl)
  have J16 : ∀ (me : T_me) (x1 : Int32) (x2 : Int32) (x3 : Int32) (y0 : Int32) (H : Heap) (locs : List Loc) (ls : Array Slot), r_Bl_run_j16 n me x1 x2 x3 y0 = some me9 → va_P D clX (wX cI cL ad ma ko sh lo de wa me ru) H → va_D (va_A ws0 sz) (wX cI cL ad ma ko sh lo de wa me ru) → va_S (va_A ws0 sz) s.heap H locs → lv_has ls 6 [(0, .ref (ad 26)), (1, .int x1), (2, .int x2), (3, .int x3)] → W p l e rm_Bl_run s m [.ref (ad 26), .int a0, .int a1, .int a2].toArray below meth c H locs 0 0 Q (F0 m 16 ls [.int y0]) := by
    intro me x1 x2 x3 y0 H locs ls h hP hD hS hl
    unfold r_Bl_run_j16 at h
    refine lv_istore (lv' := [(4, .int y0), (0, .ref (ad 26)), (1, .int x1), (2, .int x2), (3, .int x3)]) hx hb d_Bl_run_16 hl (by decide) rfl (fun ls hl => ?_)
    refine lv_iload_n hx hb d_Bl_run_18 rfl (lv_at hl 2 rfl) ?_
    refine lv_iconst (v := 2) hx hb d_Bl_run_19 (by decide) ?_
    refine lv_icmp_gt (tgt := 55) hx hb d_Bl_run_20 (by decide) (fun c5 => ?_) (fun c5 => ?_)
    · rw [if_pos c5] at h
      refine lv_iload_n hx hb d_Bl_run_55 rfl (lv_at hl 2 rfl) ?_
      refine lv_iconst (v := 4) hx hb d_Bl_run_56 (by decide) ?_
      refine lv_icmp_gt (tgt := 98) hx hb d_Bl_run_57 (by decide) (fun c6 => ?_) (fun c6 => ?_)
      · rw [if_pos c6] at h
        refine lv_iload_n hx hb d_Bl_run_98 rfl (lv_at hl 2 rfl) ?_
        refine lv_bipush (v := 6) hx hb d_Bl_run_99 (by decide) ?_
        refine lv_icmp_gt (tgt := 170) hx hb d_Bl_run_101 (by decide) (fun c7 => ?_) (fun c7 => ?_)
        · rw [if_pos c7] at h
          refine lv_aload_n hx hb d_Bl_run_170 rfl (lv_at hl 1 rfl) ?_
          refine lv_iload_n hx hb d_Bl_run_171 rfl (lv_at hl 2 rfl) ?_
          refine lv_iload_n hx hb d_Bl_run_172 rfl (lv_at hl 3 rfl) ?_
          refine lv_iload hx hb d_Bl_run_173 (lv_at hl 0 rfl) ?_
          obtain ⟨q8, hq8, h⟩ := Option.bind_eq_some_iff.mp h
          refine k_V (k_runV ⟨hx, hb, hml, hown, hts⟩ (c_Bl_runLatch rfl hq8) ok_Bl_runLatch is_Bl_runLatch lk_635 rfl rfl ⟨by decide, by decide⟩ hP hK hD hS hA hz (ci := 8) (q0 := 26) rfl rfl ob_Bl rfl hl.1 rfl (Nat.le_of_ble_eq_true rfl) d_Bl_run_175 ⟨Nat.zero_le _, Nat.zero_le _⟩) hD hS hA (fun H locs hP hD hS => ?_)
          cases h
          subst hQ
          exact k_vret hx hb hr hlk hP hK hD hS d_Bl_run_178
        · rw [if_neg c7] at h
          refine lv_aload_n hx hb d_Bl_run_104 rfl (lv_at hl 1 rfl) ?_
          refine lv_iload_n hx hb d_Bl_run_105 rfl (lv_at hl 3 rfl) ?_
          refine lv_iconst (v := 2) hx hb d_Bl_run_106 (by decide) ?_
          refine lv_iadd hx hb d_Bl_run_107 ?_
          obtain ⟨q9, hq9, h⟩ := Option.bind_eq_some_iff.mp h
          refine k_I (k_runV ⟨hx, hb, hml, hown, hts⟩ (c_Bl_isSet rfl hq9) ok_Bl_isSet is_Bl_isSet lk_611 rfl rfl ⟨by decide, by decide⟩ hP hK hD hS hA hz (ci := 8) (q0 := 26) rfl rfl ob_Bl rfl hl.1 rfl (Nat.le_of_ble_eq_true rfl) d_Bl_run_108 ⟨Nat.zero_le _, Nat.zero_le _⟩) hD hS hA (fun H locs hP hD hS => ?_)
          refine lv_istore (lv' := [(5, .int q9), (4, .int y0), (0, .ref (ad 26)), (1, .int x1), (2, .int x2), (3, .int x3)]) hx hb d_Bl_run_111 hl (by decide) rfl (fun ls hl => ?_)
          refine lv_aload_n hx hb d_Bl_run_113 rfl (lv_at hl 2 rfl) ?_
          refine lv_iload_n hx hb d_Bl_run_114 rfl (lv_at hl 4 rfl) ?_
          refine lv_iconst (v := 1) hx hb d_Bl_run_115 (by decide) ?_
          refine lv_iadd hx hb d_Bl_run_116 ?_
          refine lv_iload_n hx hb d_Bl_run_117 rfl (lv_at hl 3 rfl) ?_
          refine lv_iconst (v := 5) hx hb d_Bl_run_118 (by decide) ?_
          refine lv_icmp_ne (tgt := 140) hx hb d_Bl_run_119 (by decide) (fun c10 => ?_) (fun c10 => ?_)
          · rw [if_neg c10] at h
            refine lv_iload hx hb d_Bl_run_140 (lv_at hl 1 rfl) ?_
            refine lv_if_ne (tgt := 154) hx hb d_Bl_run_142 (by decide) (fun c11 => ?_) (fun c11 => ?_)
            · rw [if_neg c11] at h
              exact J154 _ _ _ _ _ _ _ h hP hD hS (lv_sub hl [2, 4, 1] rfl)
            · rw [if_pos c11] at h
              refine lv_iload hx hb d_Bl_run_145 (lv_at hl 0 rfl) ?_
              refine lv_if_eq (tgt := 154) hx hb d_Bl_run_147 (by decide) (fun c12 => ?_) (fun c12 => ?_)
              · rw [if_pos c12] at h
                exact J154 _ _ _ _ _ _ _ h hP hD hS (lv_sub hl [2, 4, 1] rfl)
              · rw [if_neg c12] at h
                refine lv_iconst (v := 1) hx hb d_Bl_run_150 (by decide) ?_
                refine lv_goto (tgt := 155) hx hb d_Bl_run_151 (by decide) ?_
                exact J155 _ _ _ _ _ _ _ _ h hP hD hS (lv_sub hl [2, 4, 1] rfl)
          · rw [if_pos c10] at h
            refine lv_iload hx hb d_Bl_run_122 (lv_at hl 1 rfl) ?_
            refine lv_if_eq (tgt := 136) hx hb d_Bl_run_124 (by decide) (fun c13 => ?_) (fun c13 => ?_)
            · rw [if_pos c13] at h
              exact J136 _ _ _ _ _ _ _ h hP hD hS (lv_sub hl [2, 4, 1] rfl)
            · rw [if_neg c13] at h
              refine lv_iload hx hb d_Bl_run_127 (lv_at hl 0 rfl) ?_
              refine lv_if_ne (tgt := 136) hx hb d_Bl_run_129 (by decide) (fun c14 => ?_) (fun c14 => ?_)
              · rw [if_neg c14] at h
                exact J136 _ _ _ _ _ _ _ h hP hD hS (lv_sub hl [2, 4, 1] rfl)
              · rw [if_pos c14] at h
                refine lv_iconst (v := 1) hx hb d_Bl_run_132 (by decide) ?_
                refine lv_goto (tgt := 155) hx hb d_Bl_run_133 (by decide) ?_
                exact J155 _ _ _ _ _ _ _ _ h hP hD hS (lv_sub hl [2, 4, 1] rfl)
      · rw [if_neg c6] at h
        refine lv_aload_n hx hb d_Bl_run_60 rfl (lv_at hl 1 rfl) ?_
        refine lv_iload_n hx hb d_Bl_run_61 rfl (lv_at hl 2 rfl) ?_
        refine lv_iload_n hx hb d_Bl_run_62 rfl (lv_at hl 3 rfl) ?_
        refine lv_iload hx hb d_Bl_run_63 (lv_at hl 0 rfl) ?_
        refine lv_if_eq (tgt := 82) hx hb d_Bl_run_65 (by decide) (fun c15 => ?_) (fun c15 => ?_)
        · rw [if_pos c15] at h
          exact J82 _ _ _ _ _ _ _ _ h hP hD hS (lv_sub hl [1, 3, 0] rfl)
        · rw [if_neg c15] at h
          refine lv_aload_n hx hb d_Bl_run_68 rfl (lv_at hl 1 rfl) ?_
          refine lv_iload_n hx hb d_Bl_run_69 rfl (lv_at hl 3 rfl) ?_
          refine lv_iconst (v := 5) hx hb d_Bl_run_70 (by decide) ?_
          refine lv_iadd hx hb d_Bl_run_71 ?_
          obtain ⟨q16, hq16, h⟩ := Option.bind_eq_some_iff.mp h
          refine k_I (k_runV ⟨hx, hb, hml, hown, hts⟩ (c_Bl_isSet rfl hq16) ok_Bl_isSet is_Bl_isSet lk_611 rfl rfl ⟨by decide, by decide⟩ hP hK hD hS hA hz (ci := 8) (q0 := 26) rfl rfl ob_Bl rfl hl.1 rfl (Nat.le_of_ble_eq_true rfl) d_Bl_run_72 ⟨Nat.zero_le _, Nat.zero_le _⟩) hD hS hA (fun H locs hP hD hS => ?_)
          refine lv_if_ne (tgt := 82) hx hb d_Bl_run_75 (by decide) (fun c17 => ?_) (fun c17 => ?_)
          · rw [if_neg c17] at h
            exact J82 _ _ _ _ _ _ _ _ h hP hD hS (lv_sub hl [1, 3, 0] rfl)
          · rw [if_pos c17] at h
            refine lv_iconst (v := 1) hx hb d_Bl_run_78 (by decide) ?_
            refine lv_goto (tgt := 83) hx hb d_Bl_run_79 (by decide) ?_
            exact J83 _ _ _ _ _ _ _ _ _ h hP hD hS (lv_sub hl [1, 3, 0] rfl)
    · rw [if_neg c5] at h
      refine lv_aload_n hx hb d_Bl_run_23 rfl (lv_at hl 1 rfl) ?_
      refine lv_iload_n hx hb d_Bl_run_24 rfl (lv_at hl 2 rfl) ?_
      refine lv_iload_n hx hb d_Bl_run_25 rfl (lv_at hl 3 rfl) ?_
      refine lv_iload hx hb d_Bl_run_26 (lv_at hl 0 rfl) ?_
      refine lv_iload_n hx hb d_Bl_run_28 rfl (lv_at hl 4 rfl) ?_
      obtain ⟨q18, hq18, h⟩ := Option.bind_eq_some_iff.mp h
      refine k_V (k_runV ⟨hx, hb, hml, hown, hts⟩ (c_Bl_runTimer rfl hq18) ok_Bl_runTimer is_Bl_runTimer lk_606 rfl rfl ⟨by decide, by decide⟩ hP hK hD hS hA hz (ci := 8) (q0 := 26) rfl rfl ob_Bl rfl hl.1 rfl (Nat.le_of_ble_eq_true rfl) d_Bl_run_29 ⟨Nat.zero_le _, Nat.zero_le _⟩) hD hS hA (fun H locs hP hD hS => ?_)
      refine lv_aload_n hx hb d_Bl_run_32 rfl (lv_at hl 1 rfl) ?_
      refine lv_iload_n hx hb d_Bl_run_33 rfl (lv_at hl 3 rfl) ?_
      refine lv_iconst (v := 4) hx hb d_Bl_run_34 (by decide) ?_
      refine lv_iadd hx hb d_Bl_run_35 ?_
      refine lv_iload hx hb d_Bl_run_36 (lv_at hl 0 rfl) ?_
      obtain ⟨q19, hq19, h⟩ := Option.bind_eq_some_iff.mp h
      refine k_V (k_runV ⟨hx, hb, hml, hown, hts⟩ (c_Bl_putFlag rfl hq19) ok_Bl_putFlag is_Bl_putFlag lk_619 rfl rfl ⟨by decide, by decide⟩ hP hK hD hS hA hz (ci := 8) (q0 := 26) rfl rfl ob_Bl rfl hl.1 rfl (Nat.le_of_ble_eq_true rfl) d_Bl_run_38 ⟨Nat.zero_le _, Nat.zero_le _⟩) hD hS hA (fun H locs hP hD hS => ?_)
      refine lv_aload_n hx hb d_Bl_run_41 rfl (lv_at hl 1 rfl) ?_
      refine rd_Bl_memory hx hb hts hown hK hP lk_178 d_Bl_run_42 ?_
      refine lv_iload_n hx hb d_Bl_run_45 rfl (lv_at hl 3 rfl) ?_
      refine lv_iconst (v := 5) hx hb d_Bl_run_46 (by decide) ?_
      refine lv_iadd hx hb d_Bl_run_47 ?_
      refine lv_iload_n hx hb d_Bl_run_48 rfl (lv_at hl 4 rfl) ?_
      obtain ⟨q20, hq20, h⟩ := Option.bind_eq_some_iff.mp h
      refine k_V (k_runVN ⟨hx, hb, hml, hown, hts⟩ (c_Me_change rfl hq20) ok_Me_change is_Me_change lk_618 rfl rfl ⟨by decide, by decide⟩ hP hK hD hS hA hz (ci := 6) (q0 := 19) rfl rfl ob_Me rfl hl.1 rfl (Nat.le_of_ble_eq_true rfl) d_Bl_run_49 ⟨Nat.zero_le _, Nat.zero_le _⟩) hD hS hA (fun H locs hP hD hS => ?_)
      refine lv_goto (tgt := 178) hx hb d_Bl_run_52 (by decide) ?_
      cases h
      subst hQ
      exact k_vret hx hb hr hlk hP hK hD hS d_Bl_run_178
  unfold r_Bl_run at h
  refine lv_aload_n hx hb d_Bl_run_0 rfl (lv_at hl 0 rfl) ?_
  refine rd_Bl_memory hx hb hts hown hK hP lk_178 d_Bl_run_1 ?_
  refine lv_iload_n hx hb d_Bl_run_4 rfl (lv_at hl 2 rfl) ?_
  obtain ⟨q21, hq21, h⟩ := Option.bind_eq_some_iff.mp h
  refine k_I (k_runVN ⟨hx, hb, hml, hown, hts⟩ (c_Me_cell rfl hq21) ok_Me_cell is_Me_cell lk_605 rfl rfl ⟨by decide, by decide⟩ hP hK hD hS hA hz (ci := 6) (q0 := 19) rfl rfl ob_Me rfl hl.1 rfl (Nat.le_of_ble_eq_true rfl) d_Bl_run_5 ⟨Nat.zero_le _, Nat.zero_le _⟩) hD hS hA (fun H locs hP hD hS => ?_)
  refine lv_if_eq (tgt := 15) hx hb d_Bl_run_8 (by decide) (fun c22 => ?_) (fun c22 => ?_)
  · rw [if_pos c22] at h
    refine lv_iconst (v := 0) hx hb d_Bl_run_15 (by decide) ?_
    exact J16 _ _ _ _ _ _ _ _ h hP hD hS (lv_sub hl [0, 1, 2, 3] rfl)
  · rw [if_neg c22] at h
    refine lv_iconst (v := 1) hx hb d_Bl_run_11 (by decide) ?_
    refine lv_goto (tgt := 16) hx hb d_Bl_run_12 (by decide) ?_
    exact J16 _ _ _ _ _ _ _ _ h hP hD hS (lv_sub hl [0, 1, 2, 3] rfl)
