/-! printed by wip/gen/gen3.py: pure functions and contracts of ScanMachine$Ways -/
theorem d_Wa_reach_0 : decode b_Wa_reach 0 = .ok (.iload_n 1, 1) := by decide +kernel
theorem d_Wa_reach_1 : decode b_Wa_reach 1 = .ok (.ifCond .lt 52, 3) := by decide +kernel
theorem d_Wa_reach_4 : decode b_Wa_reach 4 = .ok (.iload_n 1, 1) := by decide +kernel
theorem d_Wa_reach_5 : decode b_Wa_reach 5 = .ok (.aload_n 0, 1) := by decide +kernel
theorem d_Wa_reach_6 : decode b_Wa_reach 6 = .ok (.getfield 52, 3) := by decide +kernel
theorem d_Wa_reach_9 : decode b_Wa_reach 9 = .ok (.if_icmp .gt 44, 3) := by decide +kernel
theorem d_Wa_reach_12 : decode b_Wa_reach 12 = .ok (.iload_n 1, 1) := by decide +kernel
theorem d_Wa_reach_13 : decode b_Wa_reach 13 = .ok (.aload_n 0, 1) := by decide +kernel
theorem d_Wa_reach_14 : decode b_Wa_reach 14 = .ok (.getfield 9, 3) := by decide +kernel
theorem d_Wa_reach_17 : decode b_Wa_reach 17 = .ok (.arraylength, 1) := by decide +kernel
theorem d_Wa_reach_18 : decode b_Wa_reach 18 = .ok (.if_icmp .ge 35, 3) := by decide +kernel
theorem d_Wa_reach_21 : decode b_Wa_reach 21 = .ok (.lload_n 2, 1) := by decide +kernel
theorem d_Wa_reach_22 : decode b_Wa_reach 22 = .ok (.aload_n 0, 1) := by decide +kernel
theorem d_Wa_reach_23 : decode b_Wa_reach 23 = .ok (.getfield 9, 3) := by decide +kernel
theorem d_Wa_reach_26 : decode b_Wa_reach 26 = .ok (.iload_n 1, 1) := by decide +kernel
theorem d_Wa_reach_27 : decode b_Wa_reach 27 = .ok (.laload, 1) := by decide +kernel
theorem d_Wa_reach_28 : decode b_Wa_reach 28 = .ok (.lcmp, 1) := by decide +kernel
theorem d_Wa_reach_29 : decode b_Wa_reach 29 = .ok (.ifCond .le 24, 3) := by decide +kernel
theorem d_Wa_reach_32 : decode b_Wa_reach 32 = .ok (.aload_n 0, 1) := by decide +kernel
theorem d_Wa_reach_33 : decode b_Wa_reach 33 = .ok (.getfield 9, 3) := by decide +kernel
theorem d_Wa_reach_36 : decode b_Wa_reach 36 = .ok (.iload_n 1, 1) := by decide +kernel
theorem d_Wa_reach_37 : decode b_Wa_reach 37 = .ok (.lload_n 2, 1) := by decide +kernel
theorem d_Wa_reach_38 : decode b_Wa_reach 38 = .ok (.ldc2_w 50, 3) := by decide +kernel
theorem d_Wa_reach_41 : decode b_Wa_reach 41 = .ok (.lcmp, 1) := by decide +kernel
theorem d_Wa_reach_42 : decode b_Wa_reach 42 = .ok (.ifCond .le 9, 3) := by decide +kernel
theorem d_Wa_reach_45 : decode b_Wa_reach 45 = .ok (.ldc2_w 78, 3) := by decide +kernel
theorem d_Wa_reach_48 : decode b_Wa_reach 48 = .ok (.goto 4, 3) := by decide +kernel
theorem d_Wa_reach_51 : decode b_Wa_reach 51 = .ok (.lload_n 2, 1) := by decide +kernel
theorem d_Wa_reach_52 : decode b_Wa_reach 52 = .ok (.lastore, 1) := by decide +kernel
theorem d_Wa_reach_53 : decode b_Wa_reach 53 = .ok (.return_, 1) := by decide +kernel
def r_Wa_reach (n : Nat) (wa : T_wa) (a0 : Int32) (a1 : Int64) : Option (T_wa) := if a0 < 0 then some (wa) else if (wa_end_ wa) < a0 then some (wa) else if (257 : Int32) ≤ a0 then some (wa) else gr (wa_reached wa) a0 257 (fun v5 => if (lg_cmp a1 v5) ≤ 0 then some (wa) else if (lg_cmp a1 (1000000000 : Int64)) ≤ 0 then ga a0 257 (some ((wa_reached_s wa (vp_updL (wa_reached wa) a0.toNatClampNeg a1)))) else ga a0 257 (some ((wa_reached_s wa (vp_updL (wa_reached wa) a0.toNatClampNeg (1000000001 : Int64))))))
def rm_Wa_reach : Jvm.Room := { frames := 0, cells := 0, slots := 0, locals := 0 }
set_option maxHeartbeats 4000000 in
set_option maxRecDepth 100000 in
theorem c_Wa_reach {l : Launch} {D : va_G} {cI cL : ClassId} {ad : Nat → Nat} {ma : T_ma} {ko : T_ko} {sh : T_sh} {lo : T_lo} {de : T_de} {wa : T_wa} {me : T_me} {ru : T_ru} {ws0 : va_W} {sz n : Nat} {a0 : Int32} {a1 : Int64} {wa9 : T_wa} (hw : ws0 = (wX cI cL ad ma ko sh lo de wa me ru)) (h : r_Wa_reach n wa a0 a1 = some wa9) : Met l y_Wa_reach (Cond.code y_Wa_reach b_Wa_reach 4 none :: TB) rm_Wa_reach (PreW D clX (tyX cI cL) ws0 [.ref (ad 15), .int a0, .long a1] sz) (PstV D clX (tyX cI cL) ws0 (wX cI cL ad ma ko sh lo de (wa9) me ru) sz) 0 0 (va_A ws0 sz) := by
  refine k_met (by decide) (Nat.le_of_ble_eq_true rfl) ?_
  intro p e s m below meth c ls hx hb hr hml hts hown hlk hnm hsz hP hK hD hA hz hl
  have hP : va_P D clX (wX cI cL ad ma ko sh lo de wa me ru) s.heap := by rw [← hw]; exact hP
  have hD : va_D (va_A ws0 sz) (wX cI cL ad ma ko sh lo de wa me ru) := by rw [← hw]; exact hD
  have hS : va_S (va_A ws0 sz) s.heap s.heap [] := va_S.rf
  have hl : lv_has ls 4 [(0, .ref (ad 15)), (1, .int a0), (2, .long a1)] := hl
  generalize hQ : MQ below (PstV D clX (tyX cI cL) ws0 (wX cI cL ad ma ko sh lo de (wa9) me ru) sz) [.ref (ad 15), .int a0, .long a1].toArray s 0 0 (va_A ws0 sz) = Q
  unfold r_Wa_reach at h
  refine lv_iload_n hx hb d_Wa_reach_0 rfl (lv_at hl 1 rfl) ?_
  refine lv_if_lt (tgt := 53) hx hb d_Wa_reach_1 (by decide) (fun c1 => ?_) (fun c1 => ?_)
  · rw [if_pos c1] at h
    cases h
    subst hQ
    exact k_vret hx hb hr hlk hP hK hD hS d_Wa_reach_53
  · rw [if_neg c1] at h
    refine lv_iload_n hx hb d_Wa_reach_4 rfl (lv_at hl 1 rfl) ?_
    refine lv_aload_n hx hb d_Wa_reach_5 rfl (lv_at hl 0 rfl) ?_
    refine rd_Wa_end_ hx hb hts hown hK hP lk_131 (v := (wa_end_ wa)) rfl d_Wa_reach_6 ?_
    refine lv_icmp_gt (tgt := 53) hx hb d_Wa_reach_9 (by decide) (fun c2 => ?_) (fun c2 => ?_)
    · rw [if_pos c2] at h
      cases h
      subst hQ
      exact k_vret hx hb hr hlk hP hK hD hS d_Wa_reach_53
    · rw [if_neg c2] at h
      refine lv_iload_n hx hb d_Wa_reach_12 rfl (lv_at hl 1 rfl) ?_
      refine lv_aload_n hx hb d_Wa_reach_13 rfl (lv_at hl 0 rfl) ?_
      refine rd_Wa_reached hx hb hts hown hK hP lk_127 d_Wa_reach_14 ?_
      refine le_Wa_reached hx hb hK hP d_Wa_reach_17 ?_
      refine lv_icmp_ge (tgt := 53) hx hb d_Wa_reach_18 (by decide) (fun c3 => ?_) (fun c3 => ?_)
      · rw [if_pos c3] at h
        cases h
        subst hQ
        exact k_vret hx hb hr hlk hP hK hD hS d_Wa_reach_53
      · rw [if_neg c3] at h
        refine lv_lload_n hx hb d_Wa_reach_21 rfl (lv_at hl 2 rfl) ?_
        refine lv_aload_n hx hb d_Wa_reach_22 rfl (lv_at hl 0 rfl) ?_
        refine rd_Wa_reached hx hb hts hown hK hP lk_127 d_Wa_reach_23 ?_
        refine lv_iload_n hx hb d_Wa_reach_26 rfl (lv_at hl 1 rfl) ?_
        obtain ⟨hi4, v5, ev5, h⟩ := gr_some h
        refine ld_Wa_reached hx hb hK hP hi4 ev5 d_Wa_reach_27 ?_
        refine W.lcmp hx hb d_Wa_reach_28 ?_
        refine lv_if_le (tgt := 53) hx hb d_Wa_reach_29 (by decide) (fun c6 => ?_) (fun c6 => ?_)
        · rw [if_pos c6] at h
          cases h
          subst hQ
          exact k_vret hx hb hr hlk hP hK hD hS d_Wa_reach_53
        · rw [if_neg c6] at h
          refine lv_aload_n hx hb d_Wa_reach_32 rfl (lv_at hl 0 rfl) ?_
          refine rd_Wa_reached hx hb hts hown hK hP lk_127 d_Wa_reach_33 ?_
          refine lv_iload_n hx hb d_Wa_reach_36 rfl (lv_at hl 1 rfl) ?_
          refine lv_lload_n hx hb d_Wa_reach_37 rfl (lv_at hl 2 rfl) ?_
          refine lv_ldc2 (v := 1000000000) hx hb hown (hts _ lk_505) d_Wa_reach_38 ?_
          refine W.lcmp hx hb d_Wa_reach_41 ?_
          refine lv_if_le (tgt := 51) hx hb d_Wa_reach_42 (by decide) (fun c7 => ?_) (fun c7 => ?_)
          · rw [if_pos c7] at h
            refine lv_lload_n hx hb d_Wa_reach_51 rfl (lv_at hl 2 rfl) ?_
            obtain ⟨hi8, h⟩ := ga_some h
            refine st_Wa_reached hx hb hK hP hD hS hi8 d_Wa_reach_52 (fun H locs hP hD hS => ?_)
            cases h
            subst hQ
            exact k_vret hx hb hr hlk hP hK hD hS d_Wa_reach_53
          · rw [if_neg c7] at h
            refine lv_ldc2 (v := 1000000001) hx hb hown (hts _ lk_506) d_Wa_reach_45 ?_
            refine lv_goto (tgt := 52) hx hb d_Wa_reach_48 (by decide) ?_
            obtain ⟨hi9, h⟩ := ga_some h
            refine st_Wa_reached hx hb hK hP hD hS hi9 d_Wa_reach_52 (fun H locs hP hD hS => ?_)
            cases h
            subst hQ
            exact k_vret hx hb hr hlk hP hK hD hS d_Wa_reach_53
theorem d_Wa_passLoop_0 : decode b_Wa_passLoop 0 = .ok (.aload_n 0, 1) := by decide +kernel
theorem d_Wa_passLoop_1 : decode b_Wa_passLoop 1 = .ok (.getfield 21, 3) := by decide +kernel
theorem d_Wa_passLoop_4 : decode b_Wa_passLoop 4 = .ok (.aload_n 0, 1) := by decide +kernel
theorem d_Wa_passLoop_5 : decode b_Wa_passLoop 5 = .ok (.getfield 25, 3) := by decide +kernel
theorem d_Wa_passLoop_8 : decode b_Wa_passLoop 8 = .ok (.iload_n 1, 1) := by decide +kernel
theorem d_Wa_passLoop_9 : decode b_Wa_passLoop 9 = .ok (.iconst 1, 1) := by decide +kernel
theorem d_Wa_passLoop_10 : decode b_Wa_passLoop 10 = .ok (.isub, 1) := by decide +kernel
theorem d_Wa_passLoop_11 : decode b_Wa_passLoop 11 = .ok (.invokevirtual 39, 3) := by decide +kernel
theorem d_Wa_passLoop_14 : decode b_Wa_passLoop 14 = .ok (.i2l, 1) := by decide +kernel
theorem d_Wa_passLoop_15 : decode b_Wa_passLoop 15 = .ok (.lstore 4, 2) := by decide +kernel
theorem d_Wa_passLoop_17 : decode b_Wa_passLoop 17 = .ok (.lload 4, 2) := by decide +kernel
theorem d_Wa_passLoop_19 : decode b_Wa_passLoop 19 = .ok (.lconst 0, 1) := by decide +kernel
theorem d_Wa_passLoop_20 : decode b_Wa_passLoop 20 = .ok (.lcmp, 1) := by decide +kernel
theorem d_Wa_passLoop_21 : decode b_Wa_passLoop 21 = .ok (.ifCond .gt 21, 3) := by decide +kernel
theorem d_Wa_passLoop_24 : decode b_Wa_passLoop 24 = .ok (.aload_n 0, 1) := by decide +kernel
theorem d_Wa_passLoop_25 : decode b_Wa_passLoop 25 = .ok (.aload_n 0, 1) := by decide +kernel
theorem d_Wa_passLoop_26 : decode b_Wa_passLoop 26 = .ok (.getfield 21, 3) := by decide +kernel
theorem d_Wa_passLoop_29 : decode b_Wa_passLoop 29 = .ok (.aload_n 0, 1) := by decide +kernel
theorem d_Wa_passLoop_30 : decode b_Wa_passLoop 30 = .ok (.getfield 25, 3) := by decide +kernel
theorem d_Wa_passLoop_33 : decode b_Wa_passLoop 33 = .ok (.iload_n 1, 1) := by decide +kernel
theorem d_Wa_passLoop_34 : decode b_Wa_passLoop 34 = .ok (.invokevirtual 39, 3) := by decide +kernel
theorem d_Wa_passLoop_37 : decode b_Wa_passLoop 37 = .ok (.lload_n 2, 1) := by decide +kernel
theorem d_Wa_passLoop_38 : decode b_Wa_passLoop 38 = .ok (.invokevirtual 68, 3) := by decide +kernel
theorem d_Wa_passLoop_41 : decode b_Wa_passLoop 41 = .ok (.return_, 1) := by decide +kernel
theorem d_Wa_passLoop_42 : decode b_Wa_passLoop 42 = .ok (.iload_n 1, 1) := by decide +kernel
theorem d_Wa_passLoop_43 : decode b_Wa_passLoop 43 = .ok (.ifCond .lt 19, 3) := by decide +kernel
theorem d_Wa_passLoop_46 : decode b_Wa_passLoop 46 = .ok (.iload_n 1, 1) := by decide +kernel
theorem d_Wa_passLoop_47 : decode b_Wa_passLoop 47 = .ok (.sipush 256, 3) := by decide +kernel
theorem d_Wa_passLoop_50 : decode b_Wa_passLoop 50 = .ok (.if_icmp .ge 12, 3) := by decide +kernel
theorem d_Wa_passLoop_53 : decode b_Wa_passLoop 53 = .ok (.aload_n 0, 1) := by decide +kernel
theorem d_Wa_passLoop_54 : decode b_Wa_passLoop 54 = .ok (.getfield 15, 3) := by decide +kernel
theorem d_Wa_passLoop_57 : decode b_Wa_passLoop 57 = .ok (.iload_n 1, 1) := by decide +kernel
theorem d_Wa_passLoop_58 : decode b_Wa_passLoop 58 = .ok (.laload, 1) := by decide +kernel
theorem d_Wa_passLoop_59 : decode b_Wa_passLoop 59 = .ok (.goto 6, 3) := by decide +kernel
theorem d_Wa_passLoop_62 : decode b_Wa_passLoop 62 = .ok (.ldc2_w 46, 3) := by decide +kernel
theorem d_Wa_passLoop_65 : decode b_Wa_passLoop 65 = .ok (.lstore 6, 2) := by decide +kernel
theorem d_Wa_passLoop_67 : decode b_Wa_passLoop 67 = .ok (.aload_n 0, 1) := by decide +kernel
theorem d_Wa_passLoop_68 : decode b_Wa_passLoop 68 = .ok (.iload_n 1, 1) := by decide +kernel
theorem d_Wa_passLoop_69 : decode b_Wa_passLoop 69 = .ok (.iconst 1, 1) := by decide +kernel
theorem d_Wa_passLoop_70 : decode b_Wa_passLoop 70 = .ok (.iadd, 1) := by decide +kernel
theorem d_Wa_passLoop_71 : decode b_Wa_passLoop 71 = .ok (.lload 6, 2) := by decide +kernel
theorem d_Wa_passLoop_73 : decode b_Wa_passLoop 73 = .ok (.ldc2_w 46, 3) := by decide +kernel
theorem d_Wa_passLoop_76 : decode b_Wa_passLoop 76 = .ok (.lcmp, 1) := by decide +kernel
theorem d_Wa_passLoop_77 : decode b_Wa_passLoop 77 = .ok (.ifCond .ne 7, 3) := by decide +kernel
theorem d_Wa_passLoop_80 : decode b_Wa_passLoop 80 = .ok (.lload_n 2, 1) := by decide +kernel
theorem d_Wa_passLoop_81 : decode b_Wa_passLoop 81 = .ok (.goto 12, 3) := by decide +kernel
theorem d_Wa_passLoop_84 : decode b_Wa_passLoop 84 = .ok (.lload_n 2, 1) := by decide +kernel
theorem d_Wa_passLoop_85 : decode b_Wa_passLoop 85 = .ok (.lload 4, 2) := by decide +kernel
theorem d_Wa_passLoop_87 : decode b_Wa_passLoop 87 = .ok (.lconst 1, 1) := by decide +kernel
theorem d_Wa_passLoop_88 : decode b_Wa_passLoop 88 = .ok (.lsub, 1) := by decide +kernel
theorem d_Wa_passLoop_89 : decode b_Wa_passLoop 89 = .ok (.lload 6, 2) := by decide +kernel
theorem d_Wa_passLoop_91 : decode b_Wa_passLoop 91 = .ok (.lmul, 1) := by decide +kernel
theorem d_Wa_passLoop_92 : decode b_Wa_passLoop 92 = .ok (.ladd, 1) := by decide +kernel
theorem d_Wa_passLoop_93 : decode b_Wa_passLoop 93 = .ok (.invokevirtual 68, 3) := by decide +kernel
theorem d_Wa_passLoop_96 : decode b_Wa_passLoop 96 = .ok (.return_, 1) := by decide +kernel
def r_Wa_passLoop_j65 (n : Nat) (ko : T_ko)  (wa : T_wa) (x1 : Int32) (x2 : Int64) (x4 : Int64) (y0 : Int64) : Option (T_wa) := if (lg_cmp y0 (-1 : Int64)) = 0 then (r_Wa_reach n wa (x1 + (1 : Int32)) x2).bind (fun q3 => some (q3)) else (r_Wa_reach n wa (x1 + (1 : Int32)) (x2 + ((x4 - (1 : Int64)) * y0))).bind (fun q2 => some (q2))
def r_Wa_passLoop_j62 (n : Nat) (ko : T_ko)  (wa : T_wa) (x1 : Int32) (x2 : Int64) (x4 : Int64) : Option (T_wa) := r_Wa_passLoop_j65 n ko wa x1 x2 x4 (-1 : Int64)
def r_Wa_passLoop (n : Nat) (ko : T_ko) (wa : T_wa) (a0 : Int32) (a1 : Int64) : Option (T_wa) := (r_Co_bAt n ko (wa_unit wa) (a0 - (1 : Int32))).bind (fun q4 => if 0 < (lg_cmp q4.toInt64 (0 : Int64)) then if a0 < 0 then r_Wa_passLoop_j62 n ko wa a0 a1 q4.toInt64 else if (256 : Int32) ≤ a0 then r_Wa_passLoop_j62 n ko wa a0 a1 q4.toInt64 else gr (wa_rounds wa) a0 256 (fun v9 => r_Wa_passLoop_j65 n ko wa a0 a1 q4.toInt64 v9) else (r_Co_bAt n ko (wa_unit wa) a0).bind (fun q10 => (r_Wa_reach n wa q10 a1).bind (fun q11 => some (q11))))
def rm_Wa_passLoop : Jvm.Room := { frames := 2, cells := 0, slots := 0, locals := 46 }
set_option maxHeartbeats 4000000 in
set_option maxRecDepth 100000 in
theorem c_Wa_passLoop {l : Launch} {D : va_G} {cI cL : ClassId} {ad : Nat → Nat} {ma : T_ma} {ko : T_ko} {sh : T_sh} {lo : T_lo} {de : T_de} {wa : T_wa} {me : T_me} {ru : T_ru} {ws0 : va_W} {sz n : Nat} {a0 : Int32} {a1 : Int64} {wa9 : T_wa} (hw : ws0 = (wX cI cL ad ma ko sh lo de wa me ru)) (h : r_Wa_passLoop n ko wa a0 a1 = some wa9) : Met l y_Wa_passLoop (Cond.code y_Wa_passLoop b_Wa_passLoop 8 none :: TB) rm_Wa_passLoop (PreW D clX (tyX cI cL) ws0 [.ref (ad 15), .int a0, .long a1] sz) (PstV D clX (tyX cI cL) ws0 (wX cI cL ad ma ko sh lo de (wa9) me ru) sz) 0 0 (va_A ws0 sz) := by
  refine k_met (by decide) (Nat.le_of_ble_eq_true rfl) ?_
  intro p e s m below meth c ls hx hb hr hml hts hown hlk hnm hsz hP hK hD hA hz hl
  have hP : va_P D clX (wX cI cL ad ma ko sh lo de wa me ru) s.heap := by rw [← hw]; exact hP
  have hD : va_D (va_A ws0 sz) (wX cI cL ad ma ko sh lo de wa me ru) := by rw [← hw]; exact hD
  have hS : va_S (va_A ws0 sz) s.heap s.heap [] := va_S.rf
  have hl : lv_has ls 8 [(0, .ref (ad 15)), (1, .int a0), (2, .long a1)] := hl
  generalize hQ : MQ below (PstV D clX (tyX cI cL) ws0 (wX cI cL ad ma ko sh lo de (wa9) me ru) sz) [.ref (ad 15), .int a0, .long a1].toArray s 0 0 (va_A ws0 sz) = Q
  have J65 : ∀ (wa : T_wa) (x1 : Int32) (x2 : Int64) (x4 : Int64) (y0 : Int64) (H : Heap) (locs : List Loc) (ls : Array Slot), r_Wa_passLoop_j65 n ko wa x1 x2 x4 y0 = some wa9 → va_P D clX (wX cI cL ad ma ko sh lo de wa me ru) H → va_D (va_A ws0 sz) (wX cI cL ad ma ko sh lo de wa me ru) → va_S (va_A ws0 sz) s.heap H locs → lv_has ls 8 [(0, .ref (ad 15)), (1, .int x1), (2, .long x2), (4, .long x4)] → W p l e rm_Wa_passLoop s m [.ref (ad 15), .int a0, .long a1].toArray below meth c H locs 0 0 Q (F0 m 65 ls [.long y0]) := by
    intro wa x1 x2 x4 y0 H locs ls h hP hD hS hl
    unfold r_Wa_passLoop_j65 at h
    refine lv_lstore (lv' := [(6, .long y0), (0, .ref (ad 15)), (1, .int x1), (2, .long x2), (4, .long x4)]) hx hb d_Wa_passLoop_65 hl (by decide) rfl (fun ls hl => ?_)
    refine lv_aload_n hx hb d_Wa_passLoop_67 rfl (lv_at hl 1 rfl) ?_
    refine lv_iload_n hx hb d_Wa_passLoop_68 rfl (lv_at hl 2 rfl) ?_
    refine lv_iconst (v := 1) hx hb d_Wa_passLoop_69 (by decide) ?_
    refine lv_iadd hx hb d_Wa_passLoop_70 ?_
    refine lv_lload hx hb d_Wa_passLoop_71 (lv_at hl 0 rfl) ?_
    refine lv_ldc2 (v := -1) hx hb hown (hts _ lk_492) d_Wa_passLoop_73 ?_
    refine W.lcmp hx hb d_Wa_passLoop_76 ?_
    refine lv_if_ne (tgt := 84) hx hb d_Wa_passLoop_77 (by decide) (fun c1 => ?_) (fun c1 => ?_)
    · rw [if_neg c1] at h
      refine lv_lload_n hx hb d_Wa_passLoop_84 rfl (lv_at hl 3 rfl) ?_
      refine lv_lload hx hb d_Wa_passLoop_85 (lv_at hl 4 rfl) ?_
      refine lv_lconst (v := 1) hx hb d_Wa_passLoop_87 (by decide) ?_
      refine lv_lsub hx hb d_Wa_passLoop_88 ?_
      refine lv_lload hx hb d_Wa_passLoop_89 (lv_at hl 0 rfl) ?_
      refine lv_lmul hx hb d_Wa_passLoop_91 ?_
      refine lv_ladd hx hb d_Wa_passLoop_92 ?_
      obtain ⟨q2, hq2, h⟩ := Option.bind_eq_some_iff.mp h
      refine k_V (k_runV ⟨hx, hb, hml, hown, hts⟩ (c_Wa_reach rfl hq2) ok_Wa_reach is_Wa_reach lk_501 rfl rfl ⟨by decide, by decide⟩ hP hK hD hS hA hz (ci := 5) (q0 := 15) rfl rfl ob_Wa rfl hl.1 rfl (Nat.le_of_ble_eq_true rfl) d_Wa_passLoop_93 ⟨Nat.zero_le _, Nat.zero_le _⟩) hD hS hA (fun H locs hP hD hS => ?_)
      cases h
      subst hQ
      exact k_vret hx hb hr hlk hP hK hD hS d_Wa_passLoop_96
    · rw [if_pos c1] at h
      refine lv_lload_n hx hb d_Wa_passLoop_80 rfl (lv_at hl 3 rfl) ?_
      refine lv_goto (tgt := 93) hx hb d_Wa_passLoop_81 (by decide) ?_
      obtain ⟨q3, hq3, h⟩ := Option.bind_eq_some_iff.mp h
      refine k_V (k_runV ⟨hx, hb, hml, hown, hts⟩ (c_Wa_reach rfl hq3) ok_Wa_reach is_Wa_reach lk_501 rfl rfl ⟨by decide, by decide⟩ hP hK hD hS hA hz (ci := 5) (q0 := 15) rfl rfl ob_Wa rfl hl.1 rfl (Nat.le_of_ble_eq_true rfl) d_Wa_passLoop_93 ⟨Nat.zero_le _, Nat.zero_le _⟩) hD hS hA (fun H locs hP hD hS => ?_)
      cases h
      subst hQ
      exact k_vret hx hb hr hlk hP hK hD hS d_Wa_passLoop_96
  have J62 : ∀ (wa : T_wa) (x1 : Int32) (x2 : Int64) (x4 : Int64) (H : Heap) (locs : List Loc) (ls : Array Slot), r_Wa_passLoop_j62 n ko wa x1 x2 x4 = some wa9 → va_P D clX (wX cI cL ad ma ko sh lo de wa me ru) H → va_D (va_A ws0 sz) (wX cI cL ad ma ko sh lo de wa me ru) → va_S (va_A ws0 sz) s.heap H locs → lv_has ls 8 [(0, .ref (ad 15)), (1, .int x1), (2, .long x2), (4, .long x4)] → W p l e rm_Wa_passLoop s m [.ref (ad 15), .int a0, .long a1].toArray below meth c H locs 0 0 Q (F0 m 62 ls []) := by
    intro wa x1 x2 x4 H locs ls h hP hD hS hl
    unfold r_Wa_passLoop_j62 at h
    refine lv_ldc2 (v := -1) hx hb hown (hts _ lk_492) d_Wa_passLoop_62 ?_
    exact J65 _ _ _ _ _ _ _ _ h hP hD hS (lv_sub hl [0, 1, 2, 3] rfl)
  unfold r_Wa_passLoop at h
  refine lv_aload_n hx hb d_Wa_passLoop_0 rfl (lv_at hl 0 rfl) ?_
  refine rd_Wa_code hx hb hts hown hK hP lk_126 d_Wa_passLoop_1 ?_
  refine lv_aload_n hx hb d_Wa_passLoop_4 rfl (lv_at hl 0 rfl) ?_
  refine rd_Wa_unit hx hb hts hown hK hP lk_130 (v := (wa_unit wa)) rfl d_Wa_passLoop_5 ?_
  refine lv_iload_n hx hb d_Wa_passLoop_8 rfl (lv_at hl 1 rfl) ?_
  refine lv_iconst (v := 1) hx hb d_Wa_passLoop_9 (by decide) ?_
  refine lv_isub hx hb d_Wa_passLoop_10 ?_
  obtain ⟨q4, hq4, h⟩ := Option.bind_eq_some_iff.mp h
  refine k_I (k_runVN ⟨hx, hb, hml, hown, hts⟩ (c_Co_bAt rfl hq4) ok_Co_bAt is_Co_bAt lk_487 rfl rfl ⟨by decide, by decide⟩ hP hK hD hS hA hz (ci := 1) (q0 := 1) rfl rfl ob_Co rfl hl.1 rfl (Nat.le_of_ble_eq_true rfl) d_Wa_passLoop_11 ⟨Nat.zero_le _, Nat.zero_le _⟩) hD hS hA (fun H locs hP hD hS => ?_)
  refine lv_i2l (v := q4.toInt64) hx hb d_Wa_passLoop_14 rfl ?_
  refine lv_lstore (lv' := [(4, .long q4.toInt64), (0, .ref (ad 15)), (1, .int a0), (2, .long a1)]) hx hb d_Wa_passLoop_15 hl (by decide) rfl (fun ls hl => ?_)
  refine lv_lload hx hb d_Wa_passLoop_17 (lv_at hl 0 rfl) ?_
  refine lv_lconst (v := 0) hx hb d_Wa_passLoop_19 (by decide) ?_
  refine W.lcmp hx hb d_Wa_passLoop_20 ?_
  refine lv_if_gt (tgt := 42) hx hb d_Wa_passLoop_21 (by decide) (fun c5 => ?_) (fun c5 => ?_)
  · rw [if_pos c5] at h
    refine lv_iload_n hx hb d_Wa_passLoop_42 rfl (lv_at hl 2 rfl) ?_
    refine lv_if_lt (tgt := 62) hx hb d_Wa_passLoop_43 (by decide) (fun c6 => ?_) (fun c6 => ?_)
    · rw [if_pos c6] at h
      exact J62 _ _ _ _ _ _ _ h hP hD hS (lv_sub hl [1, 2, 3, 0] rfl)
    · rw [if_neg c6] at h
      refine lv_iload_n hx hb d_Wa_passLoop_46 rfl (lv_at hl 2 rfl) ?_
      refine lv_sipush (v := 256) hx hb d_Wa_passLoop_47 (by decide) ?_
      refine lv_icmp_ge (tgt := 62) hx hb d_Wa_passLoop_50 (by decide) (fun c7 => ?_) (fun c7 => ?_)
      · rw [if_pos c7] at h
        exact J62 _ _ _ _ _ _ _ h hP hD hS (lv_sub hl [1, 2, 3, 0] rfl)
      · rw [if_neg c7] at h
        refine lv_aload_n hx hb d_Wa_passLoop_53 rfl (lv_at hl 1 rfl) ?_
        refine rd_Wa_rounds hx hb hts hown hK hP lk_128 d_Wa_passLoop_54 ?_
        refine lv_iload_n hx hb d_Wa_passLoop_57 rfl (lv_at hl 2 rfl) ?_
        obtain ⟨hi8, v9, ev9, h⟩ := gr_some h
        refine ld_Wa_rounds hx hb hK hP hi8 ev9 d_Wa_passLoop_58 ?_
        refine lv_goto (tgt := 65) hx hb d_Wa_passLoop_59 (by decide) ?_
        exact J65 _ _ _ _ _ _ _ _ h hP hD hS (lv_sub hl [1, 2, 3, 0] rfl)
  · rw [if_neg c5] at h
    refine lv_aload_n hx hb d_Wa_passLoop_24 rfl (lv_at hl 1 rfl) ?_
    refine lv_aload_n hx hb d_Wa_passLoop_25 rfl (lv_at hl 1 rfl) ?_
    refine rd_Wa_code hx hb hts hown hK hP lk_126 d_Wa_passLoop_26 ?_
    refine lv_aload_n hx hb d_Wa_passLoop_29 rfl (lv_at hl 1 rfl) ?_
    refine rd_Wa_unit hx hb hts hown hK hP lk_130 (v := (wa_unit wa)) rfl d_Wa_passLoop_30 ?_
    refine lv_iload_n hx hb d_Wa_passLoop_33 rfl (lv_at hl 2 rfl) ?_
    obtain ⟨q10, hq10, h⟩ := Option.bind_eq_some_iff.mp h
    refine k_I (k_runVN ⟨hx, hb, hml, hown, hts⟩ (c_Co_bAt rfl hq10) ok_Co_bAt is_Co_bAt lk_487 rfl rfl ⟨by decide, by decide⟩ hP hK hD hS hA hz (ci := 1) (q0 := 1) rfl rfl ob_Co rfl hl.1 rfl (Nat.le_of_ble_eq_true rfl) d_Wa_passLoop_34 ⟨Nat.zero_le _, Nat.zero_le _⟩) hD hS hA (fun H locs hP hD hS => ?_)
    refine lv_lload_n hx hb d_Wa_passLoop_37 rfl (lv_at hl 3 rfl) ?_
    obtain ⟨q11, hq11, h⟩ := Option.bind_eq_some_iff.mp h
    refine k_V (k_runV ⟨hx, hb, hml, hown, hts⟩ (c_Wa_reach rfl hq11) ok_Wa_reach is_Wa_reach lk_501 rfl rfl ⟨by decide, by decide⟩ hP hK hD hS hA hz (ci := 5) (q0 := 15) rfl rfl ob_Wa rfl hl.1 rfl (Nat.le_of_ble_eq_true rfl) d_Wa_passLoop_38 ⟨Nat.zero_le _, Nat.zero_le _⟩) hD hS hA (fun H locs hP hD hS => ?_)
    cases h
    subst hQ
    exact k_vret hx hb hr hlk hP hK hD hS d_Wa_passLoop_41
theorem d_Wa_stepsOf_0 : decode b_Wa_stepsOf 0 = .ok (.iload_n 1, 1) := by decide +kernel
theorem d_Wa_stepsOf_1 : decode b_Wa_stepsOf 1 = .ok (.ifCond .lt 18, 3) := by decide +kernel
theorem d_Wa_stepsOf_4 : decode b_Wa_stepsOf 4 = .ok (.iload_n 1, 1) := by decide +kernel
theorem d_Wa_stepsOf_5 : decode b_Wa_stepsOf 5 = .ok (.bipush 16, 2) := by decide +kernel
theorem d_Wa_stepsOf_7 : decode b_Wa_stepsOf 7 = .ok (.if_icmp .ge 12, 3) := by decide +kernel
theorem d_Wa_stepsOf_10 : decode b_Wa_stepsOf 10 = .ok (.aload_n 0, 1) := by decide +kernel
theorem d_Wa_stepsOf_11 : decode b_Wa_stepsOf 11 = .ok (.getfield 18, 3) := by decide +kernel
theorem d_Wa_stepsOf_14 : decode b_Wa_stepsOf 14 = .ok (.iload_n 1, 1) := by decide +kernel
theorem d_Wa_stepsOf_15 : decode b_Wa_stepsOf 15 = .ok (.laload, 1) := by decide +kernel
theorem d_Wa_stepsOf_16 : decode b_Wa_stepsOf 16 = .ok (.goto 4, 3) := by decide +kernel
theorem d_Wa_stepsOf_19 : decode b_Wa_stepsOf 19 = .ok (.lconst 0, 1) := by decide +kernel
theorem d_Wa_stepsOf_20 : decode b_Wa_stepsOf 20 = .ok (.lreturn, 1) := by decide +kernel
def r_Wa_stepsOf (n : Nat) (wa : T_wa) (a0 : Int32) : Option (Int64) := if a0 < 0 then some ((0 : Int64)) else if (16 : Int32) ≤ a0 then some ((0 : Int64)) else gr (wa_steps wa) a0 16 (fun v4 => some (v4))
def rm_Wa_stepsOf : Jvm.Room := { frames := 0, cells := 0, slots := 0, locals := 0 }
set_option maxHeartbeats 4000000 in
set_option maxRecDepth 100000 in
theorem c_Wa_stepsOf {l : Launch} {D : va_G} {cI cL : ClassId} {ad : Nat → Nat} {ma : T_ma} {ko : T_ko} {sh : T_sh} {lo : T_lo} {de : T_de} {wa : T_wa} {me : T_me} {ru : T_ru} {ws0 : va_W} {sz n : Nat} {a0 : Int32} {r9 : Int64} (hw : ws0 = (wX cI cL ad ma ko sh lo de wa me ru)) (h : r_Wa_stepsOf n wa a0 = some r9) : Met l y_Wa_stepsOf (Cond.code y_Wa_stepsOf b_Wa_stepsOf 2 (some .long) :: TB) rm_Wa_stepsOf (PreW D clX (tyX cI cL) ws0 [.ref (ad 15), .int a0] sz) (PstL D clX (tyX cI cL) ws0 (wX cI cL ad ma ko sh lo de wa me ru) sz r9) 0 0 (va_A ws0 sz) := by
  refine k_met (by decide) (Nat.le_of_ble_eq_true rfl) ?_
  intro p e s m below meth c ls hx hb hr hml hts hown hlk hnm hsz hP hK hD hA hz hl
  have hP : va_P D clX (wX cI cL ad ma ko sh lo de wa me ru) s.heap := by rw [← hw]; exact hP
  have hD : va_D (va_A ws0 sz) (wX cI cL ad ma ko sh lo de wa me ru) := by rw [← hw]; exact hD
  have hS : va_S (va_A ws0 sz) s.heap s.heap [] := va_S.rf
  have hl : lv_has ls 2 [(0, .ref (ad 15)), (1, .int a0)] := hl
  generalize hQ : MQ below (PstL D clX (tyX cI cL) ws0 (wX cI cL ad ma ko sh lo de wa me ru) sz r9) [.ref (ad 15), .int a0].toArray s 0 0 (va_A ws0 sz) = Q
  unfold r_Wa_stepsOf at h
  refine lv_iload_n hx hb d_Wa_stepsOf_0 rfl (lv_at hl 1 rfl) ?_
  refine lv_if_lt (tgt := 19) hx hb d_Wa_stepsOf_1 (by decide) (fun c1 => ?_) (fun c1 => ?_)
  · rw [if_pos c1] at h
    refine lv_lconst (v := 0) hx hb d_Wa_stepsOf_19 (by decide) ?_
    cases h
    subst hQ
    exact k_lret hx hb hr hlk hP hK hD hS d_Wa_stepsOf_20
  · rw [if_neg c1] at h
    refine lv_iload_n hx hb d_Wa_stepsOf_4 rfl (lv_at hl 1 rfl) ?_
    refine lv_bipush (v := 16) hx hb d_Wa_stepsOf_5 (by decide) ?_
    refine lv_icmp_ge (tgt := 19) hx hb d_Wa_stepsOf_7 (by decide) (fun c2 => ?_) (fun c2 => ?_)
    · rw [if_pos c2] at h
      refine lv_lconst (v := 0) hx hb d_Wa_stepsOf_19 (by decide) ?_
      cases h
      subst hQ
      exact k_lret hx hb hr hlk hP hK hD hS d_Wa_stepsOf_20
    · rw [if_neg c2] at h
      refine lv_aload_n hx hb d_Wa_stepsOf_10 rfl (lv_at hl 0 rfl) ?_
      refine rd_Wa_steps hx hb hts hown hK hP lk_129 d_Wa_stepsOf_11 ?_
      refine lv_iload_n hx hb d_Wa_stepsOf_14 rfl (lv_at hl 1 rfl) ?_
      obtain ⟨hi3, v4, ev4, h⟩ := gr_some h
      refine ld_Wa_steps hx hb hK hP hi3 ev4 d_Wa_stepsOf_15 ?_
      refine lv_goto (tgt := 20) hx hb d_Wa_stepsOf_16 (by decide) ?_
      cases h
      subst hQ
      exact k_lret hx hb hr hlk hP hK hD hS d_Wa_stepsOf_20
theorem d_Wa_goOn_0 : decode b_Wa_goOn 0 = .ok (.aload_n 0, 1) := by decide +kernel
theorem d_Wa_goOn_1 : decode b_Wa_goOn 1 = .ok (.getfield 21, 3) := by decide +kernel
theorem d_Wa_goOn_4 : decode b_Wa_goOn 4 = .ok (.aload_n 0, 1) := by decide +kernel
theorem d_Wa_goOn_5 : decode b_Wa_goOn 5 = .ok (.getfield 25, 3) := by decide +kernel
theorem d_Wa_goOn_8 : decode b_Wa_goOn 8 = .ok (.iload_n 1, 1) := by decide +kernel
theorem d_Wa_goOn_9 : decode b_Wa_goOn 9 = .ok (.invokevirtual 35, 3) := by decide +kernel
theorem d_Wa_goOn_12 : decode b_Wa_goOn 12 = .ok (.tableswitch 169 10 18 #[52, 72, 169, 100, 109, 141, 141, 169, 122], 52) := by decide +kernel
theorem d_Wa_goOn_64 : decode b_Wa_goOn 64 = .ok (.aload_n 0, 1) := by decide +kernel
theorem d_Wa_goOn_65 : decode b_Wa_goOn 65 = .ok (.aload_n 0, 1) := by decide +kernel
theorem d_Wa_goOn_66 : decode b_Wa_goOn 66 = .ok (.getfield 21, 3) := by decide +kernel
theorem d_Wa_goOn_69 : decode b_Wa_goOn 69 = .ok (.aload_n 0, 1) := by decide +kernel
theorem d_Wa_goOn_70 : decode b_Wa_goOn 70 = .ok (.getfield 25, 3) := by decide +kernel
theorem d_Wa_goOn_73 : decode b_Wa_goOn 73 = .ok (.iload_n 1, 1) := by decide +kernel
theorem d_Wa_goOn_74 : decode b_Wa_goOn 74 = .ok (.invokevirtual 65, 3) := by decide +kernel
theorem d_Wa_goOn_77 : decode b_Wa_goOn 77 = .ok (.lload_n 2, 1) := by decide +kernel
theorem d_Wa_goOn_78 : decode b_Wa_goOn 78 = .ok (.invokevirtual 68, 3) := by decide +kernel
theorem d_Wa_goOn_81 : decode b_Wa_goOn 81 = .ok (.goto 108, 3) := by decide +kernel
theorem d_Wa_goOn_84 : decode b_Wa_goOn 84 = .ok (.aload_n 0, 1) := by decide +kernel
theorem d_Wa_goOn_85 : decode b_Wa_goOn 85 = .ok (.aload_n 0, 1) := by decide +kernel
theorem d_Wa_goOn_86 : decode b_Wa_goOn 86 = .ok (.getfield 21, 3) := by decide +kernel
theorem d_Wa_goOn_89 : decode b_Wa_goOn 89 = .ok (.aload_n 0, 1) := by decide +kernel
theorem d_Wa_goOn_90 : decode b_Wa_goOn 90 = .ok (.getfield 25, 3) := by decide +kernel
theorem d_Wa_goOn_93 : decode b_Wa_goOn 93 = .ok (.iload_n 1, 1) := by decide +kernel
theorem d_Wa_goOn_94 : decode b_Wa_goOn 94 = .ok (.invokevirtual 65, 3) := by decide +kernel
theorem d_Wa_goOn_97 : decode b_Wa_goOn 97 = .ok (.lload_n 2, 1) := by decide +kernel
theorem d_Wa_goOn_98 : decode b_Wa_goOn 98 = .ok (.invokevirtual 68, 3) := by decide +kernel
theorem d_Wa_goOn_101 : decode b_Wa_goOn 101 = .ok (.aload_n 0, 1) := by decide +kernel
theorem d_Wa_goOn_102 : decode b_Wa_goOn 102 = .ok (.iload_n 1, 1) := by decide +kernel
theorem d_Wa_goOn_103 : decode b_Wa_goOn 103 = .ok (.iconst 1, 1) := by decide +kernel
theorem d_Wa_goOn_104 : decode b_Wa_goOn 104 = .ok (.iadd, 1) := by decide +kernel
theorem d_Wa_goOn_105 : decode b_Wa_goOn 105 = .ok (.lload_n 2, 1) := by decide +kernel
theorem d_Wa_goOn_106 : decode b_Wa_goOn 106 = .ok (.invokevirtual 68, 3) := by decide +kernel
theorem d_Wa_goOn_109 : decode b_Wa_goOn 109 = .ok (.goto 80, 3) := by decide +kernel
theorem d_Wa_goOn_112 : decode b_Wa_goOn 112 = .ok (.aload_n 0, 1) := by decide +kernel
theorem d_Wa_goOn_113 : decode b_Wa_goOn 113 = .ok (.iload_n 1, 1) := by decide +kernel
theorem d_Wa_goOn_114 : decode b_Wa_goOn 114 = .ok (.lload_n 2, 1) := by decide +kernel
theorem d_Wa_goOn_115 : decode b_Wa_goOn 115 = .ok (.invokevirtual 71, 3) := by decide +kernel
theorem d_Wa_goOn_118 : decode b_Wa_goOn 118 = .ok (.goto 71, 3) := by decide +kernel
theorem d_Wa_goOn_121 : decode b_Wa_goOn 121 = .ok (.aload_n 0, 1) := by decide +kernel
theorem d_Wa_goOn_122 : decode b_Wa_goOn 122 = .ok (.iload_n 1, 1) := by decide +kernel
theorem d_Wa_goOn_123 : decode b_Wa_goOn 123 = .ok (.iconst 1, 1) := by decide +kernel
theorem d_Wa_goOn_124 : decode b_Wa_goOn 124 = .ok (.iadd, 1) := by decide +kernel
theorem d_Wa_goOn_125 : decode b_Wa_goOn 125 = .ok (.lload_n 2, 1) := by decide +kernel
theorem d_Wa_goOn_126 : decode b_Wa_goOn 126 = .ok (.lconst 1, 1) := by decide +kernel
theorem d_Wa_goOn_127 : decode b_Wa_goOn 127 = .ok (.ladd, 1) := by decide +kernel
theorem d_Wa_goOn_128 : decode b_Wa_goOn 128 = .ok (.invokevirtual 68, 3) := by decide +kernel
theorem d_Wa_goOn_131 : decode b_Wa_goOn 131 = .ok (.goto 58, 3) := by decide +kernel
theorem d_Wa_goOn_134 : decode b_Wa_goOn 134 = .ok (.aload_n 0, 1) := by decide +kernel
theorem d_Wa_goOn_135 : decode b_Wa_goOn 135 = .ok (.aload_n 0, 1) := by decide +kernel
theorem d_Wa_goOn_136 : decode b_Wa_goOn 136 = .ok (.getfield 21, 3) := by decide +kernel
theorem d_Wa_goOn_139 : decode b_Wa_goOn 139 = .ok (.aload_n 0, 1) := by decide +kernel
theorem d_Wa_goOn_140 : decode b_Wa_goOn 140 = .ok (.getfield 25, 3) := by decide +kernel
theorem d_Wa_goOn_143 : decode b_Wa_goOn 143 = .ok (.invokevirtual 29, 3) := by decide +kernel
theorem d_Wa_goOn_146 : decode b_Wa_goOn 146 = .ok (.lload_n 2, 1) := by decide +kernel
theorem d_Wa_goOn_147 : decode b_Wa_goOn 147 = .ok (.invokevirtual 68, 3) := by decide +kernel
theorem d_Wa_goOn_150 : decode b_Wa_goOn 150 = .ok (.goto 39, 3) := by decide +kernel
theorem d_Wa_goOn_153 : decode b_Wa_goOn 153 = .ok (.aload_n 0, 1) := by decide +kernel
theorem d_Wa_goOn_154 : decode b_Wa_goOn 154 = .ok (.iload_n 1, 1) := by decide +kernel
theorem d_Wa_goOn_155 : decode b_Wa_goOn 155 = .ok (.iconst 1, 1) := by decide +kernel
theorem d_Wa_goOn_156 : decode b_Wa_goOn 156 = .ok (.iadd, 1) := by decide +kernel
theorem d_Wa_goOn_157 : decode b_Wa_goOn 157 = .ok (.lload_n 2, 1) := by decide +kernel
theorem d_Wa_goOn_158 : decode b_Wa_goOn 158 = .ok (.aload_n 0, 1) := by decide +kernel
theorem d_Wa_goOn_159 : decode b_Wa_goOn 159 = .ok (.aload_n 0, 1) := by decide +kernel
theorem d_Wa_goOn_160 : decode b_Wa_goOn 160 = .ok (.getfield 21, 3) := by decide +kernel
theorem d_Wa_goOn_163 : decode b_Wa_goOn 163 = .ok (.aload_n 0, 1) := by decide +kernel
theorem d_Wa_goOn_164 : decode b_Wa_goOn 164 = .ok (.getfield 25, 3) := by decide +kernel
theorem d_Wa_goOn_167 : decode b_Wa_goOn 167 = .ok (.iload_n 1, 1) := by decide +kernel
theorem d_Wa_goOn_168 : decode b_Wa_goOn 168 = .ok (.invokevirtual 65, 3) := by decide +kernel
theorem d_Wa_goOn_171 : decode b_Wa_goOn 171 = .ok (.invokevirtual 74, 3) := by decide +kernel
theorem d_Wa_goOn_174 : decode b_Wa_goOn 174 = .ok (.ladd, 1) := by decide +kernel
theorem d_Wa_goOn_175 : decode b_Wa_goOn 175 = .ok (.invokevirtual 68, 3) := by decide +kernel
theorem d_Wa_goOn_178 : decode b_Wa_goOn 178 = .ok (.goto 11, 3) := by decide +kernel
theorem d_Wa_goOn_181 : decode b_Wa_goOn 181 = .ok (.aload_n 0, 1) := by decide +kernel
theorem d_Wa_goOn_182 : decode b_Wa_goOn 182 = .ok (.iload_n 1, 1) := by decide +kernel
theorem d_Wa_goOn_183 : decode b_Wa_goOn 183 = .ok (.iconst 1, 1) := by decide +kernel
theorem d_Wa_goOn_184 : decode b_Wa_goOn 184 = .ok (.iadd, 1) := by decide +kernel
theorem d_Wa_goOn_185 : decode b_Wa_goOn 185 = .ok (.lload_n 2, 1) := by decide +kernel
theorem d_Wa_goOn_186 : decode b_Wa_goOn 186 = .ok (.invokevirtual 68, 3) := by decide +kernel
theorem d_Wa_goOn_189 : decode b_Wa_goOn 189 = .ok (.return_, 1) := by decide +kernel
def r_Wa_goOn (n : Nat) (ko : T_ko) (wa : T_wa) (a0 : Int32) (a1 : Int64) : Option (T_wa) := (r_Co_numberAt n ko (wa_unit wa) a0).bind (fun q1 => if q1 = (10 : Int32) then (r_Co_aAt n ko (wa_unit wa) a0).bind (fun q3 => (r_Wa_reach n wa q3 a1).bind (fun q4 => some (q4))) else if q1 = (11 : Int32) then (r_Co_aAt n ko (wa_unit wa) a0).bind (fun q6 => (r_Wa_reach n wa q6 a1).bind (fun q7 => (r_Wa_reach n q7 (a0 + (1 : Int32)) a1).bind (fun q8 => some (q8)))) else if q1 = (13 : Int32) then (r_Wa_passLoop n ko wa a0 a1).bind (fun q10 => some (q10)) else if q1 = (14 : Int32) then (r_Wa_reach n wa (a0 + (1 : Int32)) (a1 + (1 : Int64))).bind (fun q12 => some (q12)) else if q1 = (15 : Int32) then (r_Co_aAt n ko (wa_unit wa) a0).bind (fun q14 => (r_Wa_stepsOf n wa q14).bind (fun q15 => (r_Wa_reach n wa (a0 + (1 : Int32)) (a1 + q15)).bind (fun q16 => some (q16)))) else if q1 = (16 : Int32) then (r_Co_aAt n ko (wa_unit wa) a0).bind (fun q18 => (r_Wa_stepsOf n wa q18).bind (fun q19 => (r_Wa_reach n wa (a0 + (1 : Int32)) (a1 + q19)).bind (fun q20 => some (q20)))) else if q1 = (18 : Int32) then (r_Co_sizeOf n ko (wa_unit wa)).bind (fun q22 => (r_Wa_reach n wa q22 a1).bind (fun q23 => some (q23))) else (r_Wa_reach n wa (a0 + (1 : Int32)) a1).bind (fun q28 => some (q28)))
def rm_Wa_goOn : Jvm.Room := { frames := 3, cells := 0, slots := 0, locals := 73 }
set_option maxHeartbeats 4000000 in
set_option maxRecDepth 100000 in
theorem c_Wa_goOn {l : Launch} {D : va_G} {cI cL : ClassId} {ad : Nat → Nat} {ma : T_ma} {ko : T_ko} {sh : T_sh} {lo : T_lo} {de : T_de} {wa : T_wa} {me : T_me} {ru : T_ru} {ws0 : va_W} {sz n : Nat} {a0 : Int32} {a1 : Int64} {wa9 : T_wa} (hw : ws0 = (wX cI cL ad ma ko sh lo de wa me ru)) (h : r_Wa_goOn n ko wa a0 a1 = some wa9) : Met l y_Wa_goOn (Cond.code y_Wa_goOn b_Wa_goOn 4 none :: TB) rm_Wa_goOn (PreW D clX (tyX cI cL) ws0 [.ref (ad 15), .int a0, .long a1] sz) (PstV D clX (tyX cI cL) ws0 (wX cI cL ad ma ko sh lo de (wa9) me ru) sz) 0 0 (va_A ws0 sz) := by
  refine k_met (by decide) (Nat.le_of_ble_eq_true rfl) ?_
  intro p e s m below meth c ls hx hb hr hml hts hown hlk hnm hsz hP hK hD hA hz hl
  have hP : va_P D clX (wX cI cL ad ma ko sh lo de wa me ru) s.heap := by rw [← hw]; exact hP
  have hD : va_D (va_A ws0 sz) (wX cI cL ad ma ko sh lo de wa me ru) := by rw [← hw]; exact hD
  have hS : va_S (va_A ws0 sz) s.heap s.heap [] := va_S.rf
  have hl : lv_has ls 4 [(0, .ref (ad 15)), (1, .int a0), (2, .long a1)] := hl
  generalize hQ : MQ below (PstV D clX (tyX cI cL) ws0 (wX cI cL ad ma ko sh lo de (wa9) me ru) sz) [.ref (ad 15), .int a0, .long a1].toArray s 0 0 (va_A ws0 sz) = Q
  unfold r_Wa_goOn at h
  refine lv_aload_n hx hb d_Wa_goOn_0 rfl (lv_at hl 0 rfl) ?_
  refine rd_Wa_code hx hb hts hown hK hP lk_126 d_Wa_goOn_1 ?_
  refine lv_aload_n hx hb d_Wa_goOn_4 rfl (lv_at hl 0 rfl) ?_
  refine rd_Wa_unit hx hb hts hown hK hP lk_130 (v := (wa_unit wa)) rfl d_Wa_goOn_5 ?_
  refine lv_iload_n hx hb d_Wa_goOn_8 rfl (lv_at hl 1 rfl) ?_
  obtain ⟨q1, hq1, h⟩ := Option.bind_eq_some_iff.mp h
  refine k_I (k_runVN ⟨hx, hb, hml, hown, hts⟩ (c_Co_numberAt rfl hq1) ok_Co_numberAt is_Co_numberAt lk_486 rfl rfl ⟨by decide, by decide⟩ hP hK hD hS hA hz (ci := 1) (q0 := 1) rfl rfl ob_Co rfl hl.1 rfl (Nat.le_of_ble_eq_true rfl) d_Wa_goOn_9 ⟨Nat.zero_le _, Nat.zero_le _⟩) hD hS hA (fun H locs hP hD hS => ?_)
  by_cases c2 : q1 = (10 : Int32)
  · rw [if_pos c2] at h
    refine k_sw c2 ?_
    refine lv_tableIn (tgt := 64) hx hb d_Wa_goOn_12 (by decide) (by decide) rfl (by decide) ?_
    refine lv_aload_n hx hb d_Wa_goOn_64 rfl (lv_at hl 0 rfl) ?_
    refine lv_aload_n hx hb d_Wa_goOn_65 rfl (lv_at hl 0 rfl) ?_
    refine rd_Wa_code hx hb hts hown hK hP lk_126 d_Wa_goOn_66 ?_
    refine lv_aload_n hx hb d_Wa_goOn_69 rfl (lv_at hl 0 rfl) ?_
    refine rd_Wa_unit hx hb hts hown hK hP lk_130 (v := (wa_unit wa)) rfl d_Wa_goOn_70 ?_
    refine lv_iload_n hx hb d_Wa_goOn_73 rfl (lv_at hl 1 rfl) ?_
    obtain ⟨q3, hq3, h⟩ := Option.bind_eq_some_iff.mp h
    refine k_I (k_runVN ⟨hx, hb, hml, hown, hts⟩ (c_Co_aAt rfl hq3) ok_Co_aAt is_Co_aAt lk_500 rfl rfl ⟨by decide, by decide⟩ hP hK hD hS hA hz (ci := 1) (q0 := 1) rfl rfl ob_Co rfl hl.1 rfl (Nat.le_of_ble_eq_true rfl) d_Wa_goOn_74 ⟨Nat.zero_le _, Nat.zero_le _⟩) hD hS hA (fun H locs hP hD hS => ?_)
    refine lv_lload_n hx hb d_Wa_goOn_77 rfl (lv_at hl 2 rfl) ?_
    obtain ⟨q4, hq4, h⟩ := Option.bind_eq_some_iff.mp h
    refine k_V (k_runV ⟨hx, hb, hml, hown, hts⟩ (c_Wa_reach rfl hq4) ok_Wa_reach is_Wa_reach lk_501 rfl rfl ⟨by decide, by decide⟩ hP hK hD hS hA hz (ci := 5) (q0 := 15) rfl rfl ob_Wa rfl hl.1 rfl (Nat.le_of_ble_eq_true rfl) d_Wa_goOn_78 ⟨Nat.zero_le _, Nat.zero_le _⟩) hD hS hA (fun H locs hP hD hS => ?_)
    refine lv_goto (tgt := 189) hx hb d_Wa_goOn_81 (by decide) ?_
    cases h
    subst hQ
    exact k_vret hx hb hr hlk hP hK hD hS d_Wa_goOn_189
  · rw [if_neg c2] at h
    by_cases c5 : q1 = (11 : Int32)
    · rw [if_pos c5] at h
      refine k_sw c5 ?_
      refine lv_tableIn (tgt := 84) hx hb d_Wa_goOn_12 (by decide) (by decide) rfl (by decide) ?_
      refine lv_aload_n hx hb d_Wa_goOn_84 rfl (lv_at hl 0 rfl) ?_
      refine lv_aload_n hx hb d_Wa_goOn_85 rfl (lv_at hl 0 rfl) ?_
      refine rd_Wa_code hx hb hts hown hK hP lk_126 d_Wa_goOn_86 ?_
      refine lv_aload_n hx hb d_Wa_goOn_89 rfl (lv_at hl 0 rfl) ?_
      refine rd_Wa_unit hx hb hts hown hK hP lk_130 (v := (wa_unit wa)) rfl d_Wa_goOn_90 ?_
      refine lv_iload_n hx hb d_Wa_goOn_93 rfl (lv_at hl 1 rfl) ?_
      obtain ⟨q6, hq6, h⟩ := Option.bind_eq_some_iff.mp h
      refine k_I (k_runVN ⟨hx, hb, hml, hown, hts⟩ (c_Co_aAt rfl hq6) ok_Co_aAt is_Co_aAt lk_500 rfl rfl ⟨by decide, by decide⟩ hP hK hD hS hA hz (ci := 1) (q0 := 1) rfl rfl ob_Co rfl hl.1 rfl (Nat.le_of_ble_eq_true rfl) d_Wa_goOn_94 ⟨Nat.zero_le _, Nat.zero_le _⟩) hD hS hA (fun H locs hP hD hS => ?_)
      refine lv_lload_n hx hb d_Wa_goOn_97 rfl (lv_at hl 2 rfl) ?_
      obtain ⟨q7, hq7, h⟩ := Option.bind_eq_some_iff.mp h
      refine k_V (k_runV ⟨hx, hb, hml, hown, hts⟩ (c_Wa_reach rfl hq7) ok_Wa_reach is_Wa_reach lk_501 rfl rfl ⟨by decide, by decide⟩ hP hK hD hS hA hz (ci := 5) (q0 := 15) rfl rfl ob_Wa rfl hl.1 rfl (Nat.le_of_ble_eq_true rfl) d_Wa_goOn_98 ⟨Nat.zero_le _, Nat.zero_le _⟩) hD hS hA (fun H locs hP hD hS => ?_)
      refine lv_aload_n hx hb d_Wa_goOn_101 rfl (lv_at hl 0 rfl) ?_
      refine lv_iload_n hx hb d_Wa_goOn_102 rfl (lv_at hl 1 rfl) ?_
      refine lv_iconst (v := 1) hx hb d_Wa_goOn_103 (by decide) ?_
      refine lv_iadd hx hb d_Wa_goOn_104 ?_
      refine lv_lload_n hx hb d_Wa_goOn_105 rfl (lv_at hl 2 rfl) ?_
      obtain ⟨q8, hq8, h⟩ := Option.bind_eq_some_iff.mp h
      refine k_V (k_runV ⟨hx, hb, hml, hown, hts⟩ (c_Wa_reach rfl hq8) ok_Wa_reach is_Wa_reach lk_501 rfl rfl ⟨by decide, by decide⟩ hP hK hD hS hA hz (ci := 5) (q0 := 15) rfl rfl ob_Wa rfl hl.1 rfl (Nat.le_of_ble_eq_true rfl) d_Wa_goOn_106 ⟨Nat.zero_le _, Nat.zero_le _⟩) hD hS hA (fun H locs hP hD hS => ?_)
      refine lv_goto (tgt := 189) hx hb d_Wa_goOn_109 (by decide) ?_
      cases h
      subst hQ
      exact k_vret hx hb hr hlk hP hK hD hS d_Wa_goOn_189
    · rw [if_neg c5] at h
      by_cases c9 : q1 = (13 : Int32)
      · rw [if_pos c9] at h
        refine k_sw c9 ?_
        refine lv_tableIn (tgt := 112) hx hb d_Wa_goOn_12 (by decide) (by decide) rfl (by decide) ?_
        refine lv_aload_n hx hb d_Wa_goOn_112 rfl (lv_at hl 0 rfl) ?_
        refine lv_iload_n hx hb d_Wa_goOn_113 rfl (lv_at hl 1 rfl) ?_
        refine lv_lload_n hx hb d_Wa_goOn_114 rfl (lv_at hl 2 rfl) ?_
        obtain ⟨q10, hq10, h⟩ := Option.bind_eq_some_iff.mp h
        refine k_V (k_runV ⟨hx, hb, hml, hown, hts⟩ (c_Wa_passLoop rfl hq10) ok_Wa_passLoop is_Wa_passLoop lk_507 rfl rfl ⟨by decide, by decide⟩ hP hK hD hS hA hz (ci := 5) (q0 := 15) rfl rfl ob_Wa rfl hl.1 rfl (Nat.le_of_ble_eq_true rfl) d_Wa_goOn_115 ⟨Nat.zero_le _, Nat.zero_le _⟩) hD hS hA (fun H locs hP hD hS => ?_)
        refine lv_goto (tgt := 189) hx hb d_Wa_goOn_118 (by decide) ?_
        cases h
        subst hQ
        exact k_vret hx hb hr hlk hP hK hD hS d_Wa_goOn_189
      · rw [if_neg c9] at h
        by_cases c11 : q1 = (14 : Int32)
        · rw [if_pos c11] at h
          refine k_sw c11 ?_
          refine lv_tableIn (tgt := 121) hx hb d_Wa_goOn_12 (by decide) (by decide) rfl (by decide) ?_
          refine lv_aload_n hx hb d_Wa_goOn_121 rfl (lv_at hl 0 rfl) ?_
          refine lv_iload_n hx hb d_Wa_goOn_122 rfl (lv_at hl 1 rfl) ?_
          refine lv_iconst (v := 1) hx hb d_Wa_goOn_123 (by decide) ?_
          refine lv_iadd hx hb d_Wa_goOn_124 ?_
          refine lv_lload_n hx hb d_Wa_goOn_125 rfl (lv_at hl 2 rfl) ?_
          refine lv_lconst (v := 1) hx hb d_Wa_goOn_126 (by decide) ?_
          refine lv_ladd hx hb d_Wa_goOn_127 ?_
          obtain ⟨q12, hq12, h⟩ := Option.bind_eq_some_iff.mp h
          refine k_V (k_runV ⟨hx, hb, hml, hown, hts⟩ (c_Wa_reach rfl hq12) ok_Wa_reach is_Wa_reach lk_501 rfl rfl ⟨by decide, by decide⟩ hP hK hD hS hA hz (ci := 5) (q0 := 15) rfl rfl ob_Wa rfl hl.1 rfl (Nat.le_of_ble_eq_true rfl) d_Wa_goOn_128 ⟨Nat.zero_le _, Nat.zero_le _⟩) hD hS hA (fun H locs hP hD hS => ?_)
          refine lv_goto (tgt := 189) hx hb d_Wa_goOn_131 (by decide) ?_
          cases h
          subst hQ
          exact k_vret hx hb hr hlk hP hK hD hS d_Wa_goOn_189
        · rw [if_neg c11] at h
          by_cases c13 : q1 = (15 : Int32)
          · rw [if_pos c13] at h
            refine k_sw c13 ?_
            refine lv_tableIn (tgt := 153) hx hb d_Wa_goOn_12 (by decide) (by decide) rfl (by decide) ?_
            refine lv_aload_n hx hb d_Wa_goOn_153 rfl (lv_at hl 0 rfl) ?_
            refine lv_iload_n hx hb d_Wa_goOn_154 rfl (lv_at hl 1 rfl) ?_
            refine lv_iconst (v := 1) hx hb d_Wa_goOn_155 (by decide) ?_
            refine lv_iadd hx hb d_Wa_goOn_156 ?_
            refine lv_lload_n hx hb d_Wa_goOn_157 rfl (lv_at hl 2 rfl) ?_
            refine lv_aload_n hx hb d_Wa_goOn_158 rfl (lv_at hl 0 rfl) ?_
            refine lv_aload_n hx hb d_Wa_goOn_159 rfl (lv_at hl 0 rfl) ?_
            refine rd_Wa_code hx hb hts hown hK hP lk_126 d_Wa_goOn_160 ?_
            refine lv_aload_n hx hb d_Wa_goOn_163 rfl (lv_at hl 0 rfl) ?_
            refine rd_Wa_unit hx hb hts hown hK hP lk_130 (v := (wa_unit wa)) rfl d_Wa_goOn_164 ?_
            refine lv_iload_n hx hb d_Wa_goOn_167 rfl (lv_at hl 1 rfl) ?_
            obtain ⟨q14, hq14, h⟩ := Option.bind_eq_some_iff.mp h
            refine k_I (k_runVN ⟨hx, hb, hml, hown, hts⟩ (c_Co_aAt rfl hq14) ok_Co_aAt is_Co_aAt lk_500 rfl rfl ⟨by decide, by decide⟩ hP hK hD hS hA hz (ci := 1) (q0 := 1) rfl rfl ob_Co rfl hl.1 rfl (Nat.le_of_ble_eq_true rfl) d_Wa_goOn_168 ⟨Nat.zero_le _, Nat.zero_le _⟩) hD hS hA (fun H locs hP hD hS => ?_)
            obtain ⟨q15, hq15, h⟩ := Option.bind_eq_some_iff.mp h
            refine k_L (k_runV ⟨hx, hb, hml, hown, hts⟩ (c_Wa_stepsOf rfl hq15) ok_Wa_stepsOf is_Wa_stepsOf lk_511 rfl rfl ⟨by decide, by decide⟩ hP hK hD hS hA hz (ci := 5) (q0 := 15) rfl rfl ob_Wa rfl hl.1 rfl (Nat.le_of_ble_eq_true rfl) d_Wa_goOn_171 ⟨Nat.zero_le _, Nat.zero_le _⟩) hD hS hA (fun H locs hP hD hS => ?_)
            refine lv_ladd hx hb d_Wa_goOn_174 ?_
            obtain ⟨q16, hq16, h⟩ := Option.bind_eq_some_iff.mp h
            refine k_V (k_runV ⟨hx, hb, hml, hown, hts⟩ (c_Wa_reach rfl hq16) ok_Wa_reach is_Wa_reach lk_501 rfl rfl ⟨by decide, by decide⟩ hP hK hD hS hA hz (ci := 5) (q0 := 15) rfl rfl ob_Wa rfl hl.1 rfl (Nat.le_of_ble_eq_true rfl) d_Wa_goOn_175 ⟨Nat.zero_le _, Nat.zero_le _⟩) hD hS hA (fun H locs hP hD hS => ?_)
            refine lv_goto (tgt := 189) hx hb d_Wa_goOn_178 (by decide) ?_
            cases h
            subst hQ
            exact k_vret hx hb hr hlk hP hK hD hS d_Wa_goOn_189
          · rw [if_neg c13] at h
            by_cases c17 : q1 = (16 : Int32)
            · rw [if_pos c17] at h
              refine k_sw c17 ?_
              refine lv_tableIn (tgt := 153) hx hb d_Wa_goOn_12 (by decide) (by decide) rfl (by decide) ?_
              refine lv_aload_n hx hb d_Wa_goOn_153 rfl (lv_at hl 0 rfl) ?_
              refine lv_iload_n hx hb d_Wa_goOn_154 rfl (lv_at hl 1 rfl) ?_
              refine lv_iconst (v := 1) hx hb d_Wa_goOn_155 (by decide) ?_
              refine lv_iadd hx hb d_Wa_goOn_156 ?_
              refine lv_lload_n hx hb d_Wa_goOn_157 rfl (lv_at hl 2 rfl) ?_
              refine lv_aload_n hx hb d_Wa_goOn_158 rfl (lv_at hl 0 rfl) ?_
              refine lv_aload_n hx hb d_Wa_goOn_159 rfl (lv_at hl 0 rfl) ?_
              refine rd_Wa_code hx hb hts hown hK hP lk_126 d_Wa_goOn_160 ?_
              refine lv_aload_n hx hb d_Wa_goOn_163 rfl (lv_at hl 0 rfl) ?_
              refine rd_Wa_unit hx hb hts hown hK hP lk_130 (v := (wa_unit wa)) rfl d_Wa_goOn_164 ?_
              refine lv_iload_n hx hb d_Wa_goOn_167 rfl (lv_at hl 1 rfl) ?_
              obtain ⟨q18, hq18, h⟩ := Option.bind_eq_some_iff.mp h
              refine k_I (k_runVN ⟨hx, hb, hml, hown, hts⟩ (c_Co_aAt rfl hq18) ok_Co_aAt is_Co_aAt lk_500 rfl rfl ⟨by decide, by decide⟩ hP hK hD hS hA hz (ci := 1) (q0 := 1) rfl rfl ob_Co rfl hl.1 rfl (Nat.le_of_ble_eq_true rfl) d_Wa_goOn_168 ⟨Nat.zero_le _, Nat.zero_le _⟩) hD hS hA (fun H locs hP hD hS => ?_)
              obtain ⟨q19, hq19, h⟩ := Option.bind_eq_some_iff.mp h
              refine k_L (k_runV ⟨hx, hb, hml, hown, hts⟩ (c_Wa_stepsOf rfl hq19) ok_Wa_stepsOf is_Wa_stepsOf lk_511 rfl rfl ⟨by decide, by decide⟩ hP hK hD hS hA hz (ci := 5) (q0 := 15) rfl rfl ob_Wa rfl hl.1 rfl (Nat.le_of_ble_eq_true rfl) d_Wa_goOn_171 ⟨Nat.zero_le _, Nat.zero_le _⟩) hD hS hA (fun H locs hP hD hS => ?_)
              refine lv_ladd hx hb d_Wa_goOn_174 ?_
              obtain ⟨q20, hq20, h⟩ := Option.bind_eq_some_iff.mp h
              refine k_V (k_runV ⟨hx, hb, hml, hown, hts⟩ (c_Wa_reach rfl hq20) ok_Wa_reach is_Wa_reach lk_501 rfl rfl ⟨by decide, by decide⟩ hP hK hD hS hA hz (ci := 5) (q0 := 15) rfl rfl ob_Wa rfl hl.1 rfl (Nat.le_of_ble_eq_true rfl) d_Wa_goOn_175 ⟨Nat.zero_le _, Nat.zero_le _⟩) hD hS hA (fun H locs hP hD hS => ?_)
              refine lv_goto (tgt := 189) hx hb d_Wa_goOn_178 (by decide) ?_
              cases h
              subst hQ
              exact k_vret hx hb hr hlk hP hK hD hS d_Wa_goOn_189
            · rw [if_neg c17] at h
              by_cases c21 : q1 = (18 : Int32)
              · rw [if_pos c21] at h
                refine k_sw c21 ?_
                refine lv_tableIn (tgt := 134) hx hb d_Wa_goOn_12 (by decide) (by decide) rfl (by decide) ?_
                refine lv_aload_n hx hb d_Wa_goOn_134 rfl (lv_at hl 0 rfl) ?_
                refine lv_aload_n hx hb d_Wa_goOn_135 rfl (lv_at hl 0 rfl) ?_
                refine rd_Wa_code hx hb hts hown hK hP lk_126 d_Wa_goOn_136 ?_
                refine lv_aload_n hx hb d_Wa_goOn_139 rfl (lv_at hl 0 rfl) ?_
                refine rd_Wa_unit hx hb hts hown hK hP lk_130 (v := (wa_unit wa)) rfl d_Wa_goOn_140 ?_
                obtain ⟨q22, hq22, h⟩ := Option.bind_eq_some_iff.mp h
                refine k_I (k_runVN ⟨hx, hb, hml, hown, hts⟩ (c_Co_sizeOf rfl hq22) ok_Co_sizeOf is_Co_sizeOf lk_485 rfl rfl ⟨by decide, by decide⟩ hP hK hD hS hA hz (ci := 1) (q0 := 1) rfl rfl ob_Co rfl hl.1 rfl (Nat.le_of_ble_eq_true rfl) d_Wa_goOn_143 ⟨Nat.zero_le _, Nat.zero_le _⟩) hD hS hA (fun H locs hP hD hS => ?_)
                refine lv_lload_n hx hb d_Wa_goOn_146 rfl (lv_at hl 2 rfl) ?_
                obtain ⟨q23, hq23, h⟩ := Option.bind_eq_some_iff.mp h
                refine k_V (k_runV ⟨hx, hb, hml, hown, hts⟩ (c_Wa_reach rfl hq23) ok_Wa_reach is_Wa_reach lk_501 rfl rfl ⟨by decide, by decide⟩ hP hK hD hS hA hz (ci := 5) (q0 := 15) rfl rfl ob_Wa rfl hl.1 rfl (Nat.le_of_ble_eq_true rfl) d_Wa_goOn_147 ⟨Nat.zero_le _, Nat.zero_le _⟩) hD hS hA (fun H locs hP hD hS => ?_)
                refine lv_goto (tgt := 189) hx hb d_Wa_goOn_150 (by decide) ?_
                cases h
                subst hQ
                exact k_vret hx hb hr hlk hP hK hD hS d_Wa_goOn_189
              · rw [if_neg c21] at h
                by_cases c24 : q1 = (12 : Int32)
                · refine k_sw c24 ?_
                  refine lv_tableIn (tgt := 181) hx hb d_Wa_goOn_12 (by decide) (by decide) rfl (by decide) ?_
                  refine lv_aload_n hx hb d_Wa_goOn_181 rfl (lv_at hl 0 rfl) ?_
                  refine lv_iload_n hx hb d_Wa_goOn_182 rfl (lv_at hl 1 rfl) ?_
                  refine lv_iconst (v := 1) hx hb d_Wa_goOn_183 (by decide) ?_
                  refine lv_iadd hx hb d_Wa_goOn_184 ?_
                  refine lv_lload_n hx hb d_Wa_goOn_185 rfl (lv_at hl 2 rfl) ?_
                  obtain ⟨q25, hq25, h⟩ := Option.bind_eq_some_iff.mp h
                  refine k_V (k_runV ⟨hx, hb, hml, hown, hts⟩ (c_Wa_reach rfl hq25) ok_Wa_reach is_Wa_reach lk_501 rfl rfl ⟨by decide, by decide⟩ hP hK hD hS hA hz (ci := 5) (q0 := 15) rfl rfl ob_Wa rfl hl.1 rfl (Nat.le_of_ble_eq_true rfl) d_Wa_goOn_186 ⟨Nat.zero_le _, Nat.zero_le _⟩) hD hS hA (fun H locs hP hD hS => ?_)
                  cases h
                  subst hQ
                  exact k_vret hx hb hr hlk hP hK hD hS d_Wa_goOn_189
                ·
                  by_cases c26 : q1 = (17 : Int32)
                  · refine k_sw c26 ?_
                    refine lv_tableIn (tgt := 181) hx hb d_Wa_goOn_12 (by decide) (by decide) rfl (by decide) ?_
                    refine lv_aload_n hx hb d_Wa_goOn_181 rfl (lv_at hl 0 rfl) ?_
                    refine lv_iload_n hx hb d_Wa_goOn_182 rfl (lv_at hl 1 rfl) ?_
                    refine lv_iconst (v := 1) hx hb d_Wa_goOn_183 (by decide) ?_
                    refine lv_iadd hx hb d_Wa_goOn_184 ?_
                    refine lv_lload_n hx hb d_Wa_goOn_185 rfl (lv_at hl 2 rfl) ?_
                    obtain ⟨q27, hq27, h⟩ := Option.bind_eq_some_iff.mp h
                    refine k_V (k_runV ⟨hx, hb, hml, hown, hts⟩ (c_Wa_reach rfl hq27) ok_Wa_reach is_Wa_reach lk_501 rfl rfl ⟨by decide, by decide⟩ hP hK hD hS hA hz (ci := 5) (q0 := 15) rfl rfl ob_Wa rfl hl.1 rfl (Nat.le_of_ble_eq_true rfl) d_Wa_goOn_186 ⟨Nat.zero_le _, Nat.zero_le _⟩) hD hS hA (fun H locs hP hD hS => ?_)
                    cases h
                    subst hQ
                    exact k_vret hx hb hr hlk hP hK hD hS d_Wa_goOn_189
                  ·
                    refine lv_tableOut (tgt := 181) hx hb d_Wa_goOn_12 (by have ec2 := lv_neT c2 (a := 10) (by decide); have ec5 := lv_neT c5 (a := 11) (by decide); have ec9 := lv_neT c9 (a := 13) (by decide); have ec11 := lv_neT c11 (a := 14) (by decide); have ec13 := lv_neT c13 (a := 15) (by decide); have ec17 := lv_neT c17 (a := 16) (by decide); have ec21 := lv_neT c21 (a := 18) (by decide); have ec24 := lv_neT c24 (a := 12) (by decide); have ec26 := lv_neT c26 (a := 17) (by decide); omega) (by decide) ?_
                    refine lv_aload_n hx hb d_Wa_goOn_181 rfl (lv_at hl 0 rfl) ?_
                    refine lv_iload_n hx hb d_Wa_goOn_182 rfl (lv_at hl 1 rfl) ?_
                    refine lv_iconst (v := 1) hx hb d_Wa_goOn_183 (by decide) ?_
                    refine lv_iadd hx hb d_Wa_goOn_184 ?_
                    refine lv_lload_n hx hb d_Wa_goOn_185 rfl (lv_at hl 2 rfl) ?_
                    obtain ⟨q28, hq28, h⟩ := Option.bind_eq_some_iff.mp h
                    refine k_V (k_runV ⟨hx, hb, hml, hown, hts⟩ (c_Wa_reach rfl hq28) ok_Wa_reach is_Wa_reach lk_501 rfl rfl ⟨by decide, by decide⟩ hP hK hD hS hA hz (ci := 5) (q0 := 15) rfl rfl ob_Wa rfl hl.1 rfl (Nat.le_of_ble_eq_true rfl) d_Wa_goOn_186 ⟨Nat.zero_le _, Nat.zero_le _⟩) hD hS hA (fun H locs hP hD hS => ?_)
                    cases h
                    subst hQ
                    exact k_vret hx hb hr hlk hP hK hD hS d_Wa_goOn_189
theorem d_Wa_walk_0 : decode b_Wa_walk 0 = .ok (.iload_n 1, 1) := by decide +kernel
theorem d_Wa_walk_1 : decode b_Wa_walk 1 = .ok (.ifCond .lt 15, 3) := by decide +kernel
theorem d_Wa_walk_4 : decode b_Wa_walk 4 = .ok (.iload_n 1, 1) := by decide +kernel
theorem d_Wa_walk_5 : decode b_Wa_walk 5 = .ok (.iload_n 2, 1) := by decide +kernel
theorem d_Wa_walk_6 : decode b_Wa_walk 6 = .ok (.if_icmp .gt 10, 3) := by decide +kernel
theorem d_Wa_walk_9 : decode b_Wa_walk 9 = .ok (.iload_n 2, 1) := by decide +kernel
theorem d_Wa_walk_10 : decode b_Wa_walk 10 = .ok (.sipush 256, 3) := by decide +kernel
theorem d_Wa_walk_13 : decode b_Wa_walk 13 = .ok (.if_icmp .le 4, 3) := by decide +kernel
theorem d_Wa_walk_16 : decode b_Wa_walk 16 = .ok (.return_, 1) := by decide +kernel
theorem d_Wa_walk_17 : decode b_Wa_walk 17 = .ok (.aload_n 0, 1) := by decide +kernel
theorem d_Wa_walk_18 : decode b_Wa_walk 18 = .ok (.iload_n 2, 1) := by decide +kernel
theorem d_Wa_walk_19 : decode b_Wa_walk 19 = .ok (.putfield 52, 3) := by decide +kernel
theorem d_Wa_walk_22 : decode b_Wa_walk 22 = .ok (.aload_n 0, 1) := by decide +kernel
theorem d_Wa_walk_23 : decode b_Wa_walk 23 = .ok (.getfield 9, 3) := by decide +kernel
theorem d_Wa_walk_26 : decode b_Wa_walk 26 = .ok (.ldc2_w 46, 3) := by decide +kernel
theorem d_Wa_walk_29 : decode b_Wa_walk 29 = .ok (.invokestatic 55, 3) := by decide +kernel
theorem d_Wa_walk_32 : decode b_Wa_walk 32 = .ok (.aload_n 0, 1) := by decide +kernel
theorem d_Wa_walk_33 : decode b_Wa_walk 33 = .ok (.getfield 9, 3) := by decide +kernel
theorem d_Wa_walk_36 : decode b_Wa_walk 36 = .ok (.iload_n 1, 1) := by decide +kernel
theorem d_Wa_walk_37 : decode b_Wa_walk 37 = .ok (.lconst 0, 1) := by decide +kernel
theorem d_Wa_walk_38 : decode b_Wa_walk 38 = .ok (.lastore, 1) := by decide +kernel
theorem d_Wa_walk_39 : decode b_Wa_walk 39 = .ok (.iload_n 1, 1) := by decide +kernel
theorem d_Wa_walk_40 : decode b_Wa_walk 40 = .ok (.istore_n 3, 1) := by decide +kernel
theorem d_Wa_walk_41 : decode b_Wa_walk 41 = .ok (.iload_n 3, 1) := by decide +kernel
theorem d_Wa_walk_42 : decode b_Wa_walk 42 = .ok (.iload_n 2, 1) := by decide +kernel
theorem d_Wa_walk_43 : decode b_Wa_walk 43 = .ok (.if_icmp .ge 35, 3) := by decide +kernel
theorem d_Wa_walk_46 : decode b_Wa_walk 46 = .ok (.aload_n 0, 1) := by decide +kernel
theorem d_Wa_walk_47 : decode b_Wa_walk 47 = .ok (.getfield 9, 3) := by decide +kernel
theorem d_Wa_walk_50 : decode b_Wa_walk 50 = .ok (.iload_n 3, 1) := by decide +kernel
theorem d_Wa_walk_51 : decode b_Wa_walk 51 = .ok (.laload, 1) := by decide +kernel
theorem d_Wa_walk_52 : decode b_Wa_walk 52 = .ok (.ldc2_w 46, 3) := by decide +kernel
theorem d_Wa_walk_55 : decode b_Wa_walk 55 = .ok (.lcmp, 1) := by decide +kernel
theorem d_Wa_walk_56 : decode b_Wa_walk 56 = .ok (.ifCond .eq 16, 3) := by decide +kernel
theorem d_Wa_walk_59 : decode b_Wa_walk 59 = .ok (.aload_n 0, 1) := by decide +kernel
theorem d_Wa_walk_60 : decode b_Wa_walk 60 = .ok (.iload_n 3, 1) := by decide +kernel
theorem d_Wa_walk_61 : decode b_Wa_walk 61 = .ok (.aload_n 0, 1) := by decide +kernel
theorem d_Wa_walk_62 : decode b_Wa_walk 62 = .ok (.getfield 9, 3) := by decide +kernel
theorem d_Wa_walk_65 : decode b_Wa_walk 65 = .ok (.iload_n 3, 1) := by decide +kernel
theorem d_Wa_walk_66 : decode b_Wa_walk 66 = .ok (.laload, 1) := by decide +kernel
theorem d_Wa_walk_67 : decode b_Wa_walk 67 = .ok (.lconst 1, 1) := by decide +kernel
theorem d_Wa_walk_68 : decode b_Wa_walk 68 = .ok (.ladd, 1) := by decide +kernel
theorem d_Wa_walk_69 : decode b_Wa_walk 69 = .ok (.invokevirtual 61, 3) := by decide +kernel
theorem d_Wa_walk_72 : decode b_Wa_walk 72 = .ok (.iinc 3 1, 3) := by decide +kernel
theorem d_Wa_walk_75 : decode b_Wa_walk 75 = .ok (.goto (-34), 3) := by decide +kernel
theorem d_Wa_walk_78 : decode b_Wa_walk 78 = .ok (.return_, 1) := by decide +kernel
def r_Wa_walk_l41 (n : Nat) (ko : T_ko)  : Nat → T_wa → Int32 → Int32 → Option (T_wa)
  | 0, _, _, _ => none
  | f + 1, wa, x2, x3 => if x2 ≤ x3 then some (wa) else gr (wa_reached wa) x3 257 (fun v3 => if (lg_cmp v3 (-1 : Int64)) = 0 then (r_Wa_walk_l41 n ko f) wa x2 (x3 + 1) else gr (wa_reached wa) x3 257 (fun v6 => (r_Wa_goOn n ko wa x3 (v6 + (1 : Int64))).bind (fun q7 => (r_Wa_walk_l41 n ko f) q7 x2 (x3 + 1))))
def r_Wa_walk (n : Nat) (ko : T_ko) (wa : T_wa) (a0 : Int32) (a1 : Int32) : Option (T_wa) := if a0 < 0 then some (wa) else if a1 < a0 then some (wa) else if a1 ≤ (256 : Int32) then ga a0 257 (r_Wa_walk_l41 n ko n ((wa_reached_s (wa_reached_s (wa_end__s wa a1) (fun _ => (-1 : Int64))) (vp_updL (wa_reached (wa_reached_s (wa_end__s wa a1) (fun _ => (-1 : Int64)))) a0.toNatClampNeg (0 : Int64)))) a1 a0) else some (wa)
def rm_Wa_walk : Jvm.Room := { frames := 4, cells := 0, slots := 0, locals := 96 }
set_option maxHeartbeats 4000000 in
set_option maxRecDepth 100000 in
theorem c_Wa_walk {l : Launch} {D : va_G} {cI cL : ClassId} {ad : Nat → Nat} {ma : T_ma} {ko : T_ko} {sh : T_sh} {lo : T_lo} {de : T_de} {wa : T_wa} {me : T_me} {ru : T_ru} {ws0 : va_W} {sz n : Nat} {a0 : Int32} {a1 : Int32} {wa9 : T_wa} (hw : ws0 = (wX cI cL ad ma ko sh lo de wa me ru)) (h : r_Wa_walk n ko wa a0 a1 = some wa9) : Met l y_Wa_walk (Cond.code y_Wa_walk b_Wa_walk 4 none :: TB) rm_Wa_walk (PreW D clX (tyX cI cL) ws0 [.ref (ad 15), .int a0, .int a1] sz) (PstV D clX (tyX cI cL) ws0 (wX cI cL ad ma ko sh lo de (wa9) me ru) sz) 0 0 (va_A ws0 sz) := by
  refine k_met (by decide) (Nat.le_of_ble_eq_true rfl) ?_
  intro p e s m below meth c ls hx hb hr hml hts hown hlk hnm hsz hP hK hD hA hz hl
  have hP : va_P D clX (wX cI cL ad ma ko sh lo de wa me ru) s.heap := by rw [← hw]; exact hP
  have hD : va_D (va_A ws0 sz) (wX cI cL ad ma ko sh lo de wa me ru) := by rw [← hw]; exact hD
  have hS : va_S (va_A ws0 sz) s.heap s.heap [] := va_S.rf
  have hl : lv_has ls 4 [(0, .ref (ad 15)), (1, .int a0), (2, .int a1)] := hl
  generalize hQ : MQ below (PstV D clX (tyX cI cL) ws0 (wX cI cL ad ma ko sh lo de (wa9) me ru) sz) [.ref (ad 15), .int a0, .int a1].toArray s 0 0 (va_A ws0 sz) = Q
  have L41 : ∀ (f41 : Nat), ∀ (wa : T_wa) (x2 : Int32) (x3 : Int32) (H : Heap) (locs : List Loc) (ls : Array Slot), r_Wa_walk_l41 n ko f41 wa x2 x3 = some wa9 → va_P D clX (wX cI cL ad ma ko sh lo de wa me ru) H → va_D (va_A ws0 sz) (wX cI cL ad ma ko sh lo de wa me ru) → va_S (va_A ws0 sz) s.heap H locs → lv_has ls 4 [(0, .ref (ad 15)), (2, .int x2), (3, .int x3)] → W p l e rm_Wa_walk s m [.ref (ad 15), .int a0, .int a1].toArray below meth c H locs 0 0 Q (F0 m 41 ls []) := by
    intro f41
    induction f41 with
    | zero =>
      intro wa x2 x3 H locs ls h hP hD hS hl
      exact absurd h (by intro h; cases h)
    | succ f41 ih41 =>
      intro wa x2 x3 H locs ls h hP hD hS hl
      rw [r_Wa_walk_l41] at h
      refine lv_iload_n hx hb d_Wa_walk_41 rfl (lv_at hl 2 rfl) ?_
      refine lv_iload_n hx hb d_Wa_walk_42 rfl (lv_at hl 1 rfl) ?_
      refine lv_icmp_ge (tgt := 78) hx hb d_Wa_walk_43 (by decide) (fun c1 => ?_) (fun c1 => ?_)
      · rw [if_pos c1] at h
        cases h
        subst hQ
        exact k_vret hx hb hr hlk hP hK hD hS d_Wa_walk_78
      · rw [if_neg c1] at h
        refine lv_aload_n hx hb d_Wa_walk_46 rfl (lv_at hl 0 rfl) ?_
        refine rd_Wa_reached hx hb hts hown hK hP lk_127 d_Wa_walk_47 ?_
        refine lv_iload_n hx hb d_Wa_walk_50 rfl (lv_at hl 2 rfl) ?_
        obtain ⟨hi2, v3, ev3, h⟩ := gr_some h
        refine ld_Wa_reached hx hb hK hP hi2 ev3 d_Wa_walk_51 ?_
        refine lv_ldc2 (v := -1) hx hb hown (hts _ lk_492) d_Wa_walk_52 ?_
        refine W.lcmp hx hb d_Wa_walk_55 ?_
        refine lv_if_eq (tgt := 72) hx hb d_Wa_walk_56 (by decide) (fun c4 => ?_) (fun c4 => ?_)
        · rw [if_pos c4] at h
          refine lv_iinc (v := (x3 + 1)) (lv' := [(3, .int (x3 + 1)), (0, .ref (ad 15)), (2, .int x2)]) hx hb d_Wa_walk_72 hl (k := 2) rfl rfl (by decide) rfl (fun ls hl => ?_)
          refine lv_goto (tgt := 41) hx hb d_Wa_walk_75 (by decide) ?_
          exact ih41 _ _ _ _ _ _ h hP hD hS (lv_sub hl [1, 2, 0] rfl)
        · rw [if_neg c4] at h
          refine lv_aload_n hx hb d_Wa_walk_59 rfl (lv_at hl 0 rfl) ?_
          refine lv_iload_n hx hb d_Wa_walk_60 rfl (lv_at hl 2 rfl) ?_
          refine lv_aload_n hx hb d_Wa_walk_61 rfl (lv_at hl 0 rfl) ?_
          refine rd_Wa_reached hx hb hts hown hK hP lk_127 d_Wa_walk_62 ?_
          refine lv_iload_n hx hb d_Wa_walk_65 rfl (lv_at hl 2 rfl) ?_
          obtain ⟨hi5, v6, ev6, h⟩ := gr_some h
          refine ld_Wa_reached hx hb hK hP hi5 ev6 d_Wa_walk_66 ?_
          refine lv_lconst (v := 1) hx hb d_Wa_walk_67 (by decide) ?_
          refine lv_ladd hx hb d_Wa_walk_68 ?_
          obtain ⟨q7, hq7, h⟩ := Option.bind_eq_some_iff.mp h
          refine k_V (k_runV ⟨hx, hb, hml, hown, hts⟩ (c_Wa_goOn rfl hq7) ok_Wa_goOn is_Wa_goOn lk_496 rfl rfl ⟨by decide, by decide⟩ hP hK hD hS hA hz (ci := 5) (q0 := 15) rfl rfl ob_Wa rfl hl.1 rfl (Nat.le_of_ble_eq_true rfl) d_Wa_walk_69 ⟨Nat.zero_le _, Nat.zero_le _⟩) hD hS hA (fun H locs hP hD hS => ?_)
          refine lv_iinc (v := (x3 + 1)) (lv' := [(3, .int (x3 + 1)), (0, .ref (ad 15)), (2, .int x2)]) hx hb d_Wa_walk_72 hl (k := 2) rfl rfl (by decide) rfl (fun ls hl => ?_)
          refine lv_goto (tgt := 41) hx hb d_Wa_walk_75 (by decide) ?_
          exact ih41 _ _ _ _ _ _ h hP hD hS (lv_sub hl [1, 2, 0] rfl)
  unfold r_Wa_walk at h
  refine lv_iload_n hx hb d_Wa_walk_0 rfl (lv_at hl 1 rfl) ?_
  refine lv_if_lt (tgt := 16) hx hb d_Wa_walk_1 (by decide) (fun c8 => ?_) (fun c8 => ?_)
  · rw [if_pos c8] at h
    cases h
    subst hQ
    exact k_vret hx hb hr hlk hP hK hD hS d_Wa_walk_16
  · rw [if_neg c8] at h
    refine lv_iload_n hx hb d_Wa_walk_4 rfl (lv_at hl 1 rfl) ?_
    refine lv_iload_n hx hb d_Wa_walk_5 rfl (lv_at hl 2 rfl) ?_
    refine lv_icmp_gt (tgt := 16) hx hb d_Wa_walk_6 (by decide) (fun c9 => ?_) (fun c9 => ?_)
    · rw [if_pos c9] at h
      cases h
      subst hQ
      exact k_vret hx hb hr hlk hP hK hD hS d_Wa_walk_16
    · rw [if_neg c9] at h
      refine lv_iload_n hx hb d_Wa_walk_9 rfl (lv_at hl 2 rfl) ?_
      refine lv_sipush (v := 256) hx hb d_Wa_walk_10 (by decide) ?_
      refine lv_icmp_le (tgt := 17) hx hb d_Wa_walk_13 (by decide) (fun c10 => ?_) (fun c10 => ?_)
      · rw [if_pos c10] at h
        refine lv_aload_n hx hb d_Wa_walk_17 rfl (lv_at hl 0 rfl) ?_
        refine lv_iload_n hx hb d_Wa_walk_18 rfl (lv_at hl 2 rfl) ?_
        refine wr_Wa_end_ hx hb hts hown hK hP hD hS lk_131 d_Wa_walk_19 (fun H locs hP hD hS => ?_)
        refine lv_aload_n hx hb d_Wa_walk_22 rfl (lv_at hl 0 rfl) ?_
        refine rd_Wa_reached hx hb hts hown hK hP lk_127 d_Wa_walk_23 ?_
        refine lv_ldc2 (v := -1) hx hb hown (hts _ lk_492) d_Wa_walk_26 ?_
        refine k_V (k_runS ⟨hx, hb, hml, hown, hts⟩ (c_Ar_fillJ ar_Wa_reached (t0 := 1) rfl) ok_Ar_fillJ is_Ar_fillJ lk_493 rfl rfl ⟨by decide, by decide⟩ hP hK hD hS hA hz rfl hl.1 rfl (Nat.le_of_ble_eq_true rfl) d_Wa_walk_29 ⟨Nat.zero_le _, Nat.zero_le _⟩) hD hS hA (fun H locs hP hD hS => ?_)
        have hP : va_P D clX (wX cI cL ad ma ko sh lo de ((wa_reached_s (wa_end__s wa a1) (fun _ => (-1 : Int64)))) me ru) H := hP
        have hD : va_D (va_A ws0 sz) (wX cI cL ad ma ko sh lo de ((wa_reached_s (wa_end__s wa a1) (fun _ => (-1 : Int64)))) me ru) := hD
        refine lv_aload_n hx hb d_Wa_walk_32 rfl (lv_at hl 0 rfl) ?_
        refine rd_Wa_reached hx hb hts hown hK hP lk_127 d_Wa_walk_33 ?_
        refine lv_iload_n hx hb d_Wa_walk_36 rfl (lv_at hl 1 rfl) ?_
        refine lv_lconst (v := 0) hx hb d_Wa_walk_37 (by decide) ?_
        obtain ⟨hi11, h⟩ := ga_some h
        refine st_Wa_reached hx hb hK hP hD hS hi11 d_Wa_walk_38 (fun H locs hP hD hS => ?_)
        refine lv_iload_n hx hb d_Wa_walk_39 rfl (lv_at hl 1 rfl) ?_
        refine lv_istore_n (lv' := [(3, .int a0), (0, .ref (ad 15)), (1, .int a0), (2, .int a1)]) hx hb d_Wa_walk_40 rfl hl (by decide) rfl (fun ls hl => ?_)
        exact L41 n _ _ _ _ _ _ h hP hD hS (lv_sub hl [1, 3, 0] rfl)
      · rw [if_neg c10] at h
        cases h
        subst hQ
        exact k_vret hx hb hr hlk hP hK hD hS d_Wa_walk_16
theorem d_Wa_faultOf_0 : decode b_Wa_faultOf 0 = .ok (.aload_n 0, 1) := by decide +kernel
theorem d_Wa_faultOf_1 : decode b_Wa_faultOf 1 = .ok (.iload_n 1, 1) := by decide +kernel
theorem d_Wa_faultOf_2 : decode b_Wa_faultOf 2 = .ok (.putfield 25, 3) := by decide +kernel
theorem d_Wa_faultOf_5 : decode b_Wa_faultOf 5 = .ok (.aload_n 0, 1) := by decide +kernel
theorem d_Wa_faultOf_6 : decode b_Wa_faultOf 6 = .ok (.getfield 21, 3) := by decide +kernel
theorem d_Wa_faultOf_9 : decode b_Wa_faultOf 9 = .ok (.aload_n 0, 1) := by decide +kernel
theorem d_Wa_faultOf_10 : decode b_Wa_faultOf 10 = .ok (.getfield 25, 3) := by decide +kernel
theorem d_Wa_faultOf_13 : decode b_Wa_faultOf 13 = .ok (.invokevirtual 29, 3) := by decide +kernel
theorem d_Wa_faultOf_16 : decode b_Wa_faultOf 16 = .ok (.istore_n 2, 1) := by decide +kernel
theorem d_Wa_faultOf_17 : decode b_Wa_faultOf 17 = .ok (.aload_n 0, 1) := by decide +kernel
theorem d_Wa_faultOf_18 : decode b_Wa_faultOf 18 = .ok (.getfield 25, 3) := by decide +kernel
theorem d_Wa_faultOf_21 : decode b_Wa_faultOf 21 = .ok (.ifCond .lt 19, 3) := by decide +kernel
theorem d_Wa_faultOf_24 : decode b_Wa_faultOf 24 = .ok (.aload_n 0, 1) := by decide +kernel
theorem d_Wa_faultOf_25 : decode b_Wa_faultOf 25 = .ok (.getfield 25, 3) := by decide +kernel
theorem d_Wa_faultOf_28 : decode b_Wa_faultOf 28 = .ok (.bipush 16, 2) := by decide +kernel
theorem d_Wa_faultOf_30 : decode b_Wa_faultOf 30 = .ok (.if_icmp .ge 10, 3) := by decide +kernel
theorem d_Wa_faultOf_33 : decode b_Wa_faultOf 33 = .ok (.iload_n 2, 1) := by decide +kernel
theorem d_Wa_faultOf_34 : decode b_Wa_faultOf 34 = .ok (.sipush 256, 3) := by decide +kernel
theorem d_Wa_faultOf_37 : decode b_Wa_faultOf 37 = .ok (.if_icmp .le 6, 3) := by decide +kernel
theorem d_Wa_faultOf_40 : decode b_Wa_faultOf 40 = .ok (.bipush 11, 2) := by decide +kernel
theorem d_Wa_faultOf_42 : decode b_Wa_faultOf 42 = .ok (.ireturn, 1) := by decide +kernel
theorem d_Wa_faultOf_43 : decode b_Wa_faultOf 43 = .ok (.iload_n 2, 1) := by decide +kernel
theorem d_Wa_faultOf_44 : decode b_Wa_faultOf 44 = .ok (.iconst 1, 1) := by decide +kernel
theorem d_Wa_faultOf_45 : decode b_Wa_faultOf 45 = .ok (.isub, 1) := by decide +kernel
theorem d_Wa_faultOf_46 : decode b_Wa_faultOf 46 = .ok (.istore_n 3, 1) := by decide +kernel
theorem d_Wa_faultOf_47 : decode b_Wa_faultOf 47 = .ok (.iload_n 3, 1) := by decide +kernel
theorem d_Wa_faultOf_48 : decode b_Wa_faultOf 48 = .ok (.ifCond .lt 104, 3) := by decide +kernel
theorem d_Wa_faultOf_51 : decode b_Wa_faultOf 51 = .ok (.aload_n 0, 1) := by decide +kernel
theorem d_Wa_faultOf_52 : decode b_Wa_faultOf 52 = .ok (.getfield 21, 3) := by decide +kernel
theorem d_Wa_faultOf_55 : decode b_Wa_faultOf 55 = .ok (.aload_n 0, 1) := by decide +kernel
theorem d_Wa_faultOf_56 : decode b_Wa_faultOf 56 = .ok (.getfield 25, 3) := by decide +kernel
theorem d_Wa_faultOf_59 : decode b_Wa_faultOf 59 = .ok (.iload_n 3, 1) := by decide +kernel
theorem d_Wa_faultOf_60 : decode b_Wa_faultOf 60 = .ok (.invokevirtual 35, 3) := by decide +kernel
theorem d_Wa_faultOf_63 : decode b_Wa_faultOf 63 = .ok (.bipush 13, 2) := by decide +kernel
theorem d_Wa_faultOf_65 : decode b_Wa_faultOf 65 = .ok (.if_icmp .ne 81, 3) := by decide +kernel
theorem d_Wa_faultOf_68 : decode b_Wa_faultOf 68 = .ok (.aload_n 0, 1) := by decide +kernel
theorem d_Wa_faultOf_69 : decode b_Wa_faultOf 69 = .ok (.getfield 21, 3) := by decide +kernel
theorem d_Wa_faultOf_72 : decode b_Wa_faultOf 72 = .ok (.aload_n 0, 1) := by decide +kernel
theorem d_Wa_faultOf_73 : decode b_Wa_faultOf 73 = .ok (.getfield 25, 3) := by decide +kernel
theorem d_Wa_faultOf_76 : decode b_Wa_faultOf 76 = .ok (.iload_n 3, 1) := by decide +kernel
theorem d_Wa_faultOf_77 : decode b_Wa_faultOf 77 = .ok (.invokevirtual 39, 3) := by decide +kernel
theorem d_Wa_faultOf_80 : decode b_Wa_faultOf 80 = .ok (.iconst 1, 1) := by decide +kernel
theorem d_Wa_faultOf_81 : decode b_Wa_faultOf 81 = .ok (.isub, 1) := by decide +kernel
theorem d_Wa_faultOf_82 : decode b_Wa_faultOf 82 = .ok (.istore 4, 2) := by decide +kernel
theorem d_Wa_faultOf_84 : decode b_Wa_faultOf 84 = .ok (.aload_n 0, 1) := by decide +kernel
theorem d_Wa_faultOf_85 : decode b_Wa_faultOf 85 = .ok (.iload_n 3, 1) := by decide +kernel
theorem d_Wa_faultOf_86 : decode b_Wa_faultOf 86 = .ok (.iconst 1, 1) := by decide +kernel
theorem d_Wa_faultOf_87 : decode b_Wa_faultOf 87 = .ok (.iadd, 1) := by decide +kernel
theorem d_Wa_faultOf_88 : decode b_Wa_faultOf 88 = .ok (.iload 4, 2) := by decide +kernel
theorem d_Wa_faultOf_90 : decode b_Wa_faultOf 90 = .ok (.invokevirtual 42, 3) := by decide +kernel
theorem d_Wa_faultOf_93 : decode b_Wa_faultOf 93 = .ok (.iload 4, 2) := by decide +kernel
theorem d_Wa_faultOf_95 : decode b_Wa_faultOf 95 = .ok (.ifCond .lt 19, 3) := by decide +kernel
theorem d_Wa_faultOf_98 : decode b_Wa_faultOf 98 = .ok (.iload 4, 2) := by decide +kernel
theorem d_Wa_faultOf_100 : decode b_Wa_faultOf 100 = .ok (.iload_n 2, 1) := by decide +kernel
theorem d_Wa_faultOf_101 : decode b_Wa_faultOf 101 = .ok (.if_icmp .ge 13, 3) := by decide +kernel
theorem d_Wa_faultOf_104 : decode b_Wa_faultOf 104 = .ok (.aload_n 0, 1) := by decide +kernel
theorem d_Wa_faultOf_105 : decode b_Wa_faultOf 105 = .ok (.getfield 9, 3) := by decide +kernel
theorem d_Wa_faultOf_108 : decode b_Wa_faultOf 108 = .ok (.iload 4, 2) := by decide +kernel
theorem d_Wa_faultOf_110 : decode b_Wa_faultOf 110 = .ok (.laload, 1) := by decide +kernel
theorem d_Wa_faultOf_111 : decode b_Wa_faultOf 111 = .ok (.goto 6, 3) := by decide +kernel
theorem d_Wa_faultOf_114 : decode b_Wa_faultOf 114 = .ok (.ldc2_w 46, 3) := by decide +kernel
theorem d_Wa_faultOf_117 : decode b_Wa_faultOf 117 = .ok (.lstore 5, 2) := by decide +kernel
theorem d_Wa_faultOf_119 : decode b_Wa_faultOf 119 = .ok (.aload_n 0, 1) := by decide +kernel
theorem d_Wa_faultOf_120 : decode b_Wa_faultOf 120 = .ok (.getfield 15, 3) := by decide +kernel
theorem d_Wa_faultOf_123 : decode b_Wa_faultOf 123 = .ok (.iload_n 3, 1) := by decide +kernel
theorem d_Wa_faultOf_124 : decode b_Wa_faultOf 124 = .ok (.lload 5, 2) := by decide +kernel
theorem d_Wa_faultOf_126 : decode b_Wa_faultOf 126 = .ok (.ldc2_w 46, 3) := by decide +kernel
theorem d_Wa_faultOf_129 : decode b_Wa_faultOf 129 = .ok (.lcmp, 1) := by decide +kernel
theorem d_Wa_faultOf_130 : decode b_Wa_faultOf 130 = .ok (.ifCond .ne 9, 3) := by decide +kernel
theorem d_Wa_faultOf_133 : decode b_Wa_faultOf 133 = .ok (.ldc2_w 46, 3) := by decide +kernel
theorem d_Wa_faultOf_136 : decode b_Wa_faultOf 136 = .ok (.goto 9, 3) := by decide +kernel
theorem d_Wa_faultOf_139 : decode b_Wa_faultOf 139 = .ok (.lload 5, 2) := by decide +kernel
theorem d_Wa_faultOf_141 : decode b_Wa_faultOf 141 = .ok (.ldc2_w 48, 3) := by decide +kernel
theorem d_Wa_faultOf_144 : decode b_Wa_faultOf 144 = .ok (.ladd, 1) := by decide +kernel
theorem d_Wa_faultOf_145 : decode b_Wa_faultOf 145 = .ok (.lastore, 1) := by decide +kernel
theorem d_Wa_faultOf_146 : decode b_Wa_faultOf 146 = .ok (.iinc 3 (-1), 3) := by decide +kernel
theorem d_Wa_faultOf_149 : decode b_Wa_faultOf 149 = .ok (.goto (-102), 3) := by decide +kernel
theorem d_Wa_faultOf_152 : decode b_Wa_faultOf 152 = .ok (.aload_n 0, 1) := by decide +kernel
theorem d_Wa_faultOf_153 : decode b_Wa_faultOf 153 = .ok (.iconst 0, 1) := by decide +kernel
theorem d_Wa_faultOf_154 : decode b_Wa_faultOf 154 = .ok (.iload_n 2, 1) := by decide +kernel
theorem d_Wa_faultOf_155 : decode b_Wa_faultOf 155 = .ok (.invokevirtual 42, 3) := by decide +kernel
theorem d_Wa_faultOf_158 : decode b_Wa_faultOf 158 = .ok (.aload_n 0, 1) := by decide +kernel
theorem d_Wa_faultOf_159 : decode b_Wa_faultOf 159 = .ok (.getfield 18, 3) := by decide +kernel
theorem d_Wa_faultOf_162 : decode b_Wa_faultOf 162 = .ok (.aload_n 0, 1) := by decide +kernel
theorem d_Wa_faultOf_163 : decode b_Wa_faultOf 163 = .ok (.getfield 25, 3) := by decide +kernel
theorem d_Wa_faultOf_166 : decode b_Wa_faultOf 166 = .ok (.aload_n 0, 1) := by decide +kernel
theorem d_Wa_faultOf_167 : decode b_Wa_faultOf 167 = .ok (.getfield 9, 3) := by decide +kernel
theorem d_Wa_faultOf_170 : decode b_Wa_faultOf 170 = .ok (.iload_n 2, 1) := by decide +kernel
theorem d_Wa_faultOf_171 : decode b_Wa_faultOf 171 = .ok (.laload, 1) := by decide +kernel
theorem d_Wa_faultOf_172 : decode b_Wa_faultOf 172 = .ok (.lastore, 1) := by decide +kernel
theorem d_Wa_faultOf_173 : decode b_Wa_faultOf 173 = .ok (.aload_n 0, 1) := by decide +kernel
theorem d_Wa_faultOf_174 : decode b_Wa_faultOf 174 = .ok (.getfield 18, 3) := by decide +kernel
theorem d_Wa_faultOf_177 : decode b_Wa_faultOf 177 = .ok (.aload_n 0, 1) := by decide +kernel
theorem d_Wa_faultOf_178 : decode b_Wa_faultOf 178 = .ok (.getfield 25, 3) := by decide +kernel
theorem d_Wa_faultOf_181 : decode b_Wa_faultOf 181 = .ok (.laload, 1) := by decide +kernel
theorem d_Wa_faultOf_182 : decode b_Wa_faultOf 182 = .ok (.ldc2_w 50, 3) := by decide +kernel
theorem d_Wa_faultOf_185 : decode b_Wa_faultOf 185 = .ok (.lcmp, 1) := by decide +kernel
theorem d_Wa_faultOf_186 : decode b_Wa_faultOf 186 = .ok (.ifCond .le 8, 3) := by decide +kernel
theorem d_Wa_faultOf_189 : decode b_Wa_faultOf 189 = .ok (.bipush 11, 2) := by decide +kernel
theorem d_Wa_faultOf_191 : decode b_Wa_faultOf 191 = .ok (.goto 4, 3) := by decide +kernel
theorem d_Wa_faultOf_194 : decode b_Wa_faultOf 194 = .ok (.iconst 0, 1) := by decide +kernel
theorem d_Wa_faultOf_195 : decode b_Wa_faultOf 195 = .ok (.ireturn, 1) := by decide +kernel
def r_Wa_faultOf_j117 (n : Nat) (ko : T_ko) (k47 : T_wa → Int32 → Int32 → Option (Int32 × T_wa)) (wa : T_wa) (x2 : Int32) (x3 : Int32) (y0 : Int64) : Option (Int32 × T_wa) := if (lg_cmp y0 (-1 : Int64)) = 0 then ga x3 256 (k47 ((wa_rounds_s wa (vp_updL (wa_rounds wa) x3.toNatClampNeg (-1 : Int64)))) x2 (x3 + (-1))) else ga x3 256 (k47 ((wa_rounds_s wa (vp_updL (wa_rounds wa) x3.toNatClampNeg (y0 + (2 : Int64))))) x2 (x3 + (-1)))
def r_Wa_faultOf_j114 (n : Nat) (ko : T_ko) (k47 : T_wa → Int32 → Int32 → Option (Int32 × T_wa)) (wa : T_wa) (x2 : Int32) (x3 : Int32) : Option (Int32 × T_wa) := r_Wa_faultOf_j117 n ko k47 wa x2 x3 (-1 : Int64)
def r_Wa_faultOf_l47 (n : Nat) (ko : T_ko)  : Nat → T_wa → Int32 → Int32 → Option (Int32 × T_wa)
  | 0, _, _, _ => none
  | f + 1, wa, x2, x3 => if x3 < 0 then (r_Wa_walk n ko wa (0 : Int32) x2).bind (fun q5 => gr (wa_reached q5) x2 257 (fun v7 => ga (wa_unit q5) 16 (gr (wa_steps (wa_steps_s q5 (vp_updL (wa_steps q5) (wa_unit q5).toNatClampNeg v7))) (wa_unit (wa_steps_s q5 (vp_updL (wa_steps q5) (wa_unit q5).toNatClampNeg v7))) 16 (fun v10 => if (lg_cmp v10 (1000000000 : Int64)) ≤ 0 then some ((0 : Int32), (wa_steps_s q5 (vp_updL (wa_steps q5) (wa_unit q5).toNatClampNeg v7))) else some ((11 : Int32), (wa_steps_s q5 (vp_updL (wa_steps q5) (wa_unit q5).toNatClampNeg v7))))))) else (r_Co_numberAt n ko (wa_unit wa) x3).bind (fun q12 => if q12 = (13 : Int32) then (r_Co_bAt n ko (wa_unit wa) x3).bind (fun q14 => (r_Wa_walk n ko wa (x3 + (1 : Int32)) (q14 - (1 : Int32))).bind (fun q15 => if (q14 - (1 : Int32)) < 0 then r_Wa_faultOf_j114 n ko (r_Wa_faultOf_l47 n ko f) q15 x2 x3 else if x2 ≤ (q14 - (1 : Int32)) then r_Wa_faultOf_j114 n ko (r_Wa_faultOf_l47 n ko f) q15 x2 x3 else gr (wa_reached q15) (q14 - (1 : Int32)) 257 (fun v19 => r_Wa_faultOf_j117 n ko (r_Wa_faultOf_l47 n ko f) q15 x2 x3 v19))) else (r_Wa_faultOf_l47 n ko f) wa x2 (x3 + (-1)))
def r_Wa_faultOf (n : Nat) (ko : T_ko) (wa : T_wa) (a0 : Int32) : Option (Int32 × T_wa) := (r_Co_sizeOf n ko (wa_unit (wa_unit_s wa a0))).bind (fun q20 => if (wa_unit (wa_unit_s wa a0)) < 0 then some ((11 : Int32), (wa_unit_s wa a0)) else if (16 : Int32) ≤ (wa_unit (wa_unit_s wa a0)) then some ((11 : Int32), (wa_unit_s wa a0)) else if q20 ≤ (256 : Int32) then r_Wa_faultOf_l47 n ko n ((wa_unit_s wa a0)) q20 (q20 - (1 : Int32)) else some ((11 : Int32), (wa_unit_s wa a0)))
def rm_Wa_faultOf : Jvm.Room := { frames := 5, cells := 0, slots := 0, locals := 119 }
set_option maxHeartbeats 4000000 in
set_option maxRecDepth 100000 in
theorem c_Wa_faultOf {l : Launch} {D : va_G} {cI cL : ClassId} {ad : Nat → Nat} {ma : T_ma} {ko : T_ko} {sh : T_sh} {lo : T_lo} {de : T_de} {wa : T_wa} {me : T_me} {ru : T_ru} {ws0 : va_W} {sz n : Nat} {a0 : Int32} {r9 : Int32} {wa9 : T_wa} (hw : ws0 = (wX cI cL ad ma ko sh lo de wa me ru)) (h : r_Wa_faultOf n ko wa a0 = some (r9, wa9)) : Met l y_Wa_faultOf (Cond.code y_Wa_faultOf b_Wa_faultOf 7 (some .int) :: TB) rm_Wa_faultOf (PreW D clX (tyX cI cL) ws0 [.ref (ad 15), .int a0] sz) (PstI D clX (tyX cI cL) ws0 (wX cI cL ad ma ko sh lo de (wa9) me ru) sz r9) 0 0 (va_A ws0 sz) := by
  refine k_met (by decide) (Nat.le_of_ble_eq_true rfl) ?_
  intro p e s m below meth c ls hx hb hr hml hts hown hlk hnm hsz hP hK hD hA hz hl
  have hP : va_P D clX (wX cI cL ad ma ko sh lo de wa me ru) s.heap := by rw [← hw]; exact hP
  have hD : va_D (va_A ws0 sz) (wX cI cL ad ma ko sh lo de wa me ru) := by rw [← hw]; exact hD
  have hS : va_S (va_A ws0 sz) s.heap s.heap [] := va_S.rf
  have hl : lv_has ls 7 [(0, .ref (ad 15)), (1, .int a0)] := hl
  generalize hQ : MQ below (PstI D clX (tyX cI cL) ws0 (wX cI cL ad ma ko sh lo de (wa9) me ru) sz r9) [.ref (ad 15), .int a0].toArray s 0 0 (va_A ws0 sz) = Q
  have L47 : ∀ (f47 : Nat), ∀ (wa : T_wa) (x2 : Int32) (x3 : Int32) (H : Heap) (locs : List Loc) (ls : Array Slot), r_Wa_faultOf_l47 n ko f47 wa x2 x3 = some (r9, wa9) → va_P D clX (wX cI cL ad ma ko sh lo de wa me ru) H → va_D (va_A ws0 sz) (wX cI cL ad ma ko sh lo de wa me ru) → va_S (va_A ws0 sz) s.heap H locs → lv_has ls 7 [(0, .ref (ad 15)), (2, .int x2), (3, .int x3)] → W p l e rm_Wa_faultOf s m [.ref (ad 15), .int a0].toArray below meth c H locs 0 0 Q (F0 m 47 ls []) := by
    intro f47
    induction f47 with
    | zero =>
      intro wa x2 x3 H locs ls h hP hD hS hl
      exact absurd h (by intro h; cases h)
    | succ f47 ih47 =>
      have J117 : ∀ (wa : T_wa) (x2 : Int32) (x3 : Int32) (y0 : Int64) (H : Heap) (locs : List Loc) (ls : Array Slot), r_Wa_faultOf_j117 n ko (r_Wa_faultOf_l47 n ko f47) wa x2 x3 y0 = some (r9, wa9) → va_P D clX (wX cI cL ad ma ko sh lo de wa me ru) H → va_D (va_A ws0 sz) (wX cI cL ad ma ko sh lo de wa me ru) → va_S (va_A ws0 sz) s.heap H locs → lv_has ls 7 [(0, .ref (ad 15)), (2, .int x2), (3, .int x3)] → W p l e rm_Wa_faultOf s m [.ref (ad 15), .int a0].toArray below meth c H locs 0 0 Q (F0 m 117 ls [.long y0]) := by
        intro wa x2 x3 y0 H locs ls h hP hD hS hl
        unfold r_Wa_faultOf_j117 at h
        refine lv_lstore (lv' := [(5, .long y0), (0, .ref (ad 15)), (2, .int x2), (3, .int x3)]) hx hb d_Wa_faultOf_117 hl (by decide) rfl (fun ls hl => ?_)
        refine lv_aload_n hx hb d_Wa_faultOf_119 rfl (lv_at hl 1 rfl) ?_
        refine rd_Wa_rounds hx hb hts hown hK hP lk_128 d_Wa_faultOf_120 ?_
        refine lv_iload_n hx hb d_Wa_faultOf_123 rfl (lv_at hl 3 rfl) ?_
        refine lv_lload hx hb d_Wa_faultOf_124 (lv_at hl 0 rfl) ?_
        refine lv_ldc2 (v := -1) hx hb hown (hts _ lk_492) d_Wa_faultOf_126 ?_
        refine W.lcmp hx hb d_Wa_faultOf_129 ?_
        refine lv_if_ne (tgt := 139) hx hb d_Wa_faultOf_130 (by decide) (fun c1 => ?_) (fun c1 => ?_)
        · rw [if_neg c1] at h
          refine lv_lload hx hb d_Wa_faultOf_139 (lv_at hl 0 rfl) ?_
          refine lv_ldc2 (v := 2) hx hb hown (hts _ lk_515) d_Wa_faultOf_141 ?_
          refine lv_ladd hx hb d_Wa_faultOf_144 ?_
          obtain ⟨hi2, h⟩ := ga_some h
          refine st_Wa_rounds hx hb hK hP hD hS hi2 d_Wa_faultOf_145 (fun H locs hP hD hS => ?_)
          refine lv_iinc (v := (x3 + (-1))) (lv' := [(3, .int (x3 + (-1))), (5, .long y0), (0, .ref (ad 15)), (2, .int x2)]) hx hb d_Wa_faultOf_146 hl (k := 3) rfl rfl (by decide) rfl (fun ls hl => ?_)
          refine lv_goto (tgt := 47) hx hb d_Wa_faultOf_149 (by decide) ?_
          exact ih47 _ _ _ _ _ _ h hP hD hS (lv_sub hl [2, 3, 0] rfl)
        · rw [if_pos c1] at h
          refine lv_ldc2 (v := -1) hx hb hown (hts _ lk_492) d_Wa_faultOf_133 ?_
          refine lv_goto (tgt := 145) hx hb d_Wa_faultOf_136 (by decide) ?_
          obtain ⟨hi3, h⟩ := ga_some h
          refine st_Wa_rounds hx hb hK hP hD hS hi3 d_Wa_faultOf_145 (fun H locs hP hD hS => ?_)
          refine lv_iinc (v := (x3 + (-1))) (lv' := [(3, .int (x3 + (-1))), (5, .long y0), (0, .ref (ad 15)), (2, .int x2)]) hx hb d_Wa_faultOf_146 hl (k := 3) rfl rfl (by decide) rfl (fun ls hl => ?_)
          refine lv_goto (tgt := 47) hx hb d_Wa_faultOf_149 (by decide) ?_
          exact ih47 _ _ _ _ _ _ h hP hD hS (lv_sub hl [2, 3, 0] rfl)
      have J114 : ∀ (wa : T_wa) (x2 : Int32) (x3 : Int32) (H : Heap) (locs : List Loc) (ls : Array Slot), r_Wa_faultOf_j114 n ko (r_Wa_faultOf_l47 n ko f47) wa x2 x3 = some (r9, wa9) → va_P D clX (wX cI cL ad ma ko sh lo de wa me ru) H → va_D (va_A ws0 sz) (wX cI cL ad ma ko sh lo de wa me ru) → va_S (va_A ws0 sz) s.heap H locs → lv_has ls 7 [(0, .ref (ad 15)), (2, .int x2), (3, .int x3)] → W p l e rm_Wa_faultOf s m [.ref (ad 15), .int a0].toArray below meth c H locs 0 0 Q (F0 m 114 ls []) := by
        intro wa x2 x3 H locs ls h hP hD hS hl
        unfold r_Wa_faultOf_j114 at h
        refine lv_ldc2 (v := -1) hx hb hown (hts _ lk_492) d_Wa_faultOf_114 ?_
        exact J117 _ _ _ _ _ _ _ h hP hD hS (lv_sub hl [0, 1, 2] rfl)
      intro wa x2 x3 H locs ls h hP hD hS hl
      rw [r_Wa_faultOf_l47] at h
      refine lv_iload_n hx hb d_Wa_faultOf_47 rfl (lv_at hl 2 rfl) ?_
      refine lv_if_lt (tgt := 152) hx hb d_Wa_faultOf_48 (by decide) (fun c4 => ?_) (fun c4 => ?_)
      · rw [if_pos c4] at h
        refine lv_aload_n hx hb d_Wa_faultOf_152 rfl (lv_at hl 0 rfl) ?_
        refine lv_iconst (v := 0) hx hb d_Wa_faultOf_153 (by decide) ?_
        refine lv_iload_n hx hb d_Wa_faultOf_154 rfl (lv_at hl 1 rfl) ?_
        obtain ⟨q5, hq5, h⟩ := Option.bind_eq_some_iff.mp h
        refine k_V (k_runV ⟨hx, hb, hml, hown, hts⟩ (c_Wa_walk rfl hq5) ok_Wa_walk is_Wa_walk lk_488 rfl rfl ⟨by decide, by decide⟩ hP hK hD hS hA hz (ci := 5) (q0 := 15) rfl rfl ob_Wa rfl hl.1 rfl (Nat.le_of_ble_eq_true rfl) d_Wa_faultOf_155 ⟨Nat.zero_le _, Nat.zero_le _⟩) hD hS hA (fun H locs hP hD hS => ?_)
        refine lv_aload_n hx hb d_Wa_faultOf_158 rfl (lv_at hl 0 rfl) ?_
        refine rd_Wa_steps hx hb hts hown hK hP lk_129 d_Wa_faultOf_159 ?_
        refine lv_aload_n hx hb d_Wa_faultOf_162 rfl (lv_at hl 0 rfl) ?_
        refine rd_Wa_unit hx hb hts hown hK hP lk_130 (v := (wa_unit q5)) rfl d_Wa_faultOf_163 ?_
        refine lv_aload_n hx hb d_Wa_faultOf_166 rfl (lv_at hl 0 rfl) ?_
        refine rd_Wa_reached hx hb hts hown hK hP lk_127 d_Wa_faultOf_167 ?_
        refine lv_iload_n hx hb d_Wa_faultOf_170 rfl (lv_at hl 1 rfl) ?_
        obtain ⟨hi6, v7, ev7, h⟩ := gr_some h
        refine ld_Wa_reached hx hb hK hP hi6 ev7 d_Wa_faultOf_171 ?_
        obtain ⟨hi8, h⟩ := ga_some h
        refine st_Wa_steps hx hb hK hP hD hS hi8 d_Wa_faultOf_172 (fun H locs hP hD hS => ?_)
        refine lv_aload_n hx hb d_Wa_faultOf_173 rfl (lv_at hl 0 rfl) ?_
        refine rd_Wa_steps hx hb hts hown hK hP lk_129 d_Wa_faultOf_174 ?_
        refine lv_aload_n hx hb d_Wa_faultOf_177 rfl (lv_at hl 0 rfl) ?_
        refine rd_Wa_unit hx hb hts hown hK hP lk_130 (v := (wa_unit (wa_steps_s q5 (vp_updL (wa_steps q5) (wa_unit q5).toNatClampNeg v7)))) rfl d_Wa_faultOf_178 ?_
        obtain ⟨hi9, v10, ev10, h⟩ := gr_some h
        refine ld_Wa_steps hx hb hK hP hi9 ev10 d_Wa_faultOf_181 ?_
        refine lv_ldc2 (v := 1000000000) hx hb hown (hts _ lk_505) d_Wa_faultOf_182 ?_
        refine W.lcmp hx hb d_Wa_faultOf_185 ?_
        refine lv_if_le (tgt := 194) hx hb d_Wa_faultOf_186 (by decide) (fun c11 => ?_) (fun c11 => ?_)
        · rw [if_pos c11] at h
          refine lv_iconst (v := 0) hx hb d_Wa_faultOf_194 (by decide) ?_
          cases h
          subst hQ
          exact k_iret hx hb hr hlk hP hK hD hS d_Wa_faultOf_195
        · rw [if_neg c11] at h
          refine lv_bipush (v := 11) hx hb d_Wa_faultOf_189 (by decide) ?_
          refine lv_goto (tgt := 195) hx hb d_Wa_faultOf_191 (by decide) ?_
          cases h
          subst hQ
          exact k_iret hx hb hr hlk hP hK hD hS d_Wa_faultOf_195
      · rw [if_neg c4] at h
        refine lv_aload_n hx hb d_Wa_faultOf_51 rfl (lv_at hl 0 rfl) ?_
        refine rd_Wa_code hx hb hts hown hK hP lk_126 d_Wa_faultOf_52 ?_
        refine lv_aload_n hx hb d_Wa_faultOf_55 rfl (lv_at hl 0 rfl) ?_
        refine rd_Wa_unit hx hb hts hown hK hP lk_130 (v := (wa_unit wa)) rfl d_Wa_faultOf_56 ?_
        refine lv_iload_n hx hb d_Wa_faultOf_59 rfl (lv_at hl 2 rfl) ?_
        obtain ⟨q12, hq12, h⟩ := Option.bind_eq_some_iff.mp h
        refine k_I (k_runVN ⟨hx, hb, hml, hown, hts⟩ (c_Co_numberAt rfl hq12) ok_Co_numberAt is_Co_numberAt lk_486 rfl rfl ⟨by decide, by decide⟩ hP hK hD hS hA hz (ci := 1) (q0 := 1) rfl rfl ob_Co rfl hl.1 rfl (Nat.le_of_ble_eq_true rfl) d_Wa_faultOf_60 ⟨Nat.zero_le _, Nat.zero_le _⟩) hD hS hA (fun H locs hP hD hS => ?_)
        refine lv_bipush (v := 13) hx hb d_Wa_faultOf_63 (by decide) ?_
        refine lv_icmp_ne (tgt := 146) hx hb d_Wa_faultOf_65 (by decide) (fun c13 => ?_) (fun c13 => ?_)
        · rw [if_neg c13] at h
          refine lv_iinc (v := (x3 + (-1))) (lv' := [(3, .int (x3 + (-1))), (0, .ref (ad 15)), (2, .int x2)]) hx hb d_Wa_faultOf_146 hl (k := 2) rfl rfl (by decide) rfl (fun ls hl => ?_)
          refine lv_goto (tgt := 47) hx hb d_Wa_faultOf_149 (by decide) ?_
          exact ih47 _ _ _ _ _ _ h hP hD hS (lv_sub hl [1, 2, 0] rfl)
        · rw [if_pos c13] at h
          refine lv_aload_n hx hb d_Wa_faultOf_68 rfl (lv_at hl 0 rfl) ?_
          refine rd_Wa_code hx hb hts hown hK hP lk_126 d_Wa_faultOf_69 ?_
          refine lv_aload_n hx hb d_Wa_faultOf_72 rfl (lv_at hl 0 rfl) ?_
          refine rd_Wa_unit hx hb hts hown hK hP lk_130 (v := (wa_unit wa)) rfl d_Wa_faultOf_73 ?_
          refine lv_iload_n hx hb d_Wa_faultOf_76 rfl (lv_at hl 2 rfl) ?_
          obtain ⟨q14, hq14, h⟩ := Option.bind_eq_some_iff.mp h
          refine k_I (k_runVN ⟨hx, hb, hml, hown, hts⟩ (c_Co_bAt rfl hq14) ok_Co_bAt is_Co_bAt lk_487 rfl rfl ⟨by decide, by decide⟩ hP hK hD hS hA hz (ci := 1) (q0 := 1) rfl rfl ob_Co rfl hl.1 rfl (Nat.le_of_ble_eq_true rfl) d_Wa_faultOf_77 ⟨Nat.zero_le _, Nat.zero_le _⟩) hD hS hA (fun H locs hP hD hS => ?_)
          refine lv_iconst (v := 1) hx hb d_Wa_faultOf_80 (by decide) ?_
          refine lv_isub hx hb d_Wa_faultOf_81 ?_
          refine lv_istore (lv' := [(4, .int (q14 - (1 : Int32))), (0, .ref (ad 15)), (2, .int x2), (3, .int x3)]) hx hb d_Wa_faultOf_82 hl (by decide) rfl (fun ls hl => ?_)
          refine lv_aload_n hx hb d_Wa_faultOf_84 rfl (lv_at hl 1 rfl) ?_
          refine lv_iload_n hx hb d_Wa_faultOf_85 rfl (lv_at hl 3 rfl) ?_
          refine lv_iconst (v := 1) hx hb d_Wa_faultOf_86 (by decide) ?_
          refine lv_iadd hx hb d_Wa_faultOf_87 ?_
          refine lv_iload hx hb d_Wa_faultOf_88 (lv_at hl 0 rfl) ?_
          obtain ⟨q15, hq15, h⟩ := Option.bind_eq_some_iff.mp h
          refine k_V (k_runV ⟨hx, hb, hml, hown, hts⟩ (c_Wa_walk rfl hq15) ok_Wa_walk is_Wa_walk lk_488 rfl rfl ⟨by decide, by decide⟩ hP hK hD hS hA hz (ci := 5) (q0 := 15) rfl rfl ob_Wa rfl hl.1 rfl (Nat.le_of_ble_eq_true rfl) d_Wa_faultOf_90 ⟨Nat.zero_le _, Nat.zero_le _⟩) hD hS hA (fun H locs hP hD hS => ?_)
          refine lv_iload hx hb d_Wa_faultOf_93 (lv_at hl 0 rfl) ?_
          refine lv_if_lt (tgt := 114) hx hb d_Wa_faultOf_95 (by decide) (fun c16 => ?_) (fun c16 => ?_)
          · rw [if_pos c16] at h
            exact J114 _ _ _ _ _ _ h hP hD hS (lv_sub hl [1, 2, 3] rfl)
          · rw [if_neg c16] at h
            refine lv_iload hx hb d_Wa_faultOf_98 (lv_at hl 0 rfl) ?_
            refine lv_iload_n hx hb d_Wa_faultOf_100 rfl (lv_at hl 2 rfl) ?_
            refine lv_icmp_ge (tgt := 114) hx hb d_Wa_faultOf_101 (by decide) (fun c17 => ?_) (fun c17 => ?_)
            · rw [if_pos c17] at h
              exact J114 _ _ _ _ _ _ h hP hD hS (lv_sub hl [1, 2, 3] rfl)
            · rw [if_neg c17] at h
              refine lv_aload_n hx hb d_Wa_faultOf_104 rfl (lv_at hl 1 rfl) ?_
              refine rd_Wa_reached hx hb hts hown hK hP lk_127 d_Wa_faultOf_105 ?_
              refine lv_iload hx hb d_Wa_faultOf_108 (lv_at hl 0 rfl) ?_
              obtain ⟨hi18, v19, ev19, h⟩ := gr_some h
              refine ld_Wa_reached hx hb hK hP hi18 ev19 d_Wa_faultOf_110 ?_
              refine lv_goto (tgt := 117) hx hb d_Wa_faultOf_111 (by decide) ?_
              exact J117 _ _ _ _ _ _ _ h hP hD hS (lv_sub hl [1, 2, 3] rfl)
  unfold r_Wa_faultOf at h
  refine lv_aload_n hx hb d_Wa_faultOf_0 rfl (lv_at hl 0 rfl) ?_
  refine lv_iload_n hx hb d_Wa_faultOf_1 rfl (lv_at hl 1 rfl) ?_
  refine wr_Wa_unit hx hb hts hown hK hP hD hS lk_130 d_Wa_faultOf_2 (fun H locs hP hD hS => ?_)
  refine lv_aload_n hx hb d_Wa_faultOf_5 rfl (lv_at hl 0 rfl) ?_
  refine rd_Wa_code hx hb hts hown hK hP lk_126 d_Wa_faultOf_6 ?_
  refine lv_aload_n hx hb d_Wa_faultOf_9 rfl (lv_at hl 0 rfl) ?_
  refine rd_Wa_unit hx hb hts hown hK hP lk_130 (v := (wa_unit (wa_unit_s wa a0))) rfl d_Wa_faultOf_10 ?_
  obtain ⟨q20, hq20, h⟩ := Option.bind_eq_some_iff.mp h
  refine k_I (k_runVN ⟨hx, hb, hml, hown, hts⟩ (c_Co_sizeOf rfl hq20) ok_Co_sizeOf is_Co_sizeOf lk_485 rfl rfl ⟨by decide, by decide⟩ hP hK hD hS hA hz (ci := 1) (q0 := 1) rfl rfl ob_Co rfl hl.1 rfl (Nat.le_of_ble_eq_true rfl) d_Wa_faultOf_13 ⟨Nat.zero_le _, Nat.zero_le _⟩) hD hS hA (fun H locs hP hD hS => ?_)
  refine lv_istore_n (lv' := [(2, .int q20), (0, .ref (ad 15)), (1, .int a0)]) hx hb d_Wa_faultOf_16 rfl hl (by decide) rfl (fun ls hl => ?_)
  refine lv_aload_n hx hb d_Wa_faultOf_17 rfl (lv_at hl 1 rfl) ?_
  refine rd_Wa_unit hx hb hts hown hK hP lk_130 (v := (wa_unit (wa_unit_s wa a0))) rfl d_Wa_faultOf_18 ?_
  refine lv_if_lt (tgt := 40) hx hb d_Wa_faultOf_21 (by decide) (fun c21 => ?_) (fun c21 => ?_)
  · rw [if_pos c21] at h
    refine lv_bipush (v := 11) hx hb d_Wa_faultOf_40 (by decide) ?_
    cases h
    subst hQ
    exact k_iret hx hb hr hlk hP hK hD hS d_Wa_faultOf_42
  · rw [if_neg c21] at h
    refine lv_aload_n hx hb d_Wa_faultOf_24 rfl (lv_at hl 1 rfl) ?_
    refine rd_Wa_unit hx hb hts hown hK hP lk_130 (v := (wa_unit (wa_unit_s wa a0))) rfl d_Wa_faultOf_25 ?_
    refine lv_bipush (v := 16) hx hb d_Wa_faultOf_28 (by decide) ?_
    refine lv_icmp_ge (tgt := 40) hx hb d_Wa_faultOf_30 (by decide) (fun c22 => ?_) (fun c22 => ?_)
    · rw [if_pos c22] at h
      refine lv_bipush (v := 11) hx hb d_Wa_faultOf_40 (by decide) ?_
      cases h
      subst hQ
      exact k_iret hx hb hr hlk hP hK hD hS d_Wa_faultOf_42
    · rw [if_neg c22] at h
      refine lv_iload_n hx hb d_Wa_faultOf_33 rfl (lv_at hl 0 rfl) ?_
      refine lv_sipush (v := 256) hx hb d_Wa_faultOf_34 (by decide) ?_
      refine lv_icmp_le (tgt := 43) hx hb d_Wa_faultOf_37 (by decide) (fun c23 => ?_) (fun c23 => ?_)
      · rw [if_pos c23] at h
        refine lv_iload_n hx hb d_Wa_faultOf_43 rfl (lv_at hl 0 rfl) ?_
        refine lv_iconst (v := 1) hx hb d_Wa_faultOf_44 (by decide) ?_
        refine lv_isub hx hb d_Wa_faultOf_45 ?_
        refine lv_istore_n (lv' := [(3, .int (q20 - (1 : Int32))), (2, .int q20), (0, .ref (ad 15)), (1, .int a0)]) hx hb d_Wa_faultOf_46 rfl hl (by decide) rfl (fun ls hl => ?_)
        exact L47 n _ _ _ _ _ _ h hP hD hS (lv_sub hl [2, 1, 0] rfl)
      · rw [if_neg c23] at h
        refine lv_bipush (v := 11) hx hb d_Wa_faultOf_40 (by decide) ?_
        cases h
        subst hQ
        exact k_iret hx hb hr hlk hP hK hD hS d_Wa_faultOf_42
