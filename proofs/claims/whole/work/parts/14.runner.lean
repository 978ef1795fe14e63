/-! printed by wip/gen/gen3.py: pure functions and contracts of ScanMachine$Runner -/
theorem d_Ru_goBack_0 : decode b_Ru_goBack 0 = .ok (.aload_n 0, 1) := by decide +kernel
theorem d_Ru_goBack_1 : decode b_Ru_goBack 1 = .ok (.getfield 47, 3) := by decide +kernel
theorem d_Ru_goBack_4 : decode b_Ru_goBack 4 = .ok (.ifCond .le 12, 3) := by decide +kernel
theorem d_Ru_goBack_7 : decode b_Ru_goBack 7 = .ok (.aload_n 0, 1) := by decide +kernel
theorem d_Ru_goBack_8 : decode b_Ru_goBack 8 = .ok (.getfield 47, 3) := by decide +kernel
theorem d_Ru_goBack_11 : decode b_Ru_goBack 11 = .ok (.bipush 16, 2) := by decide +kernel
theorem d_Ru_goBack_13 : decode b_Ru_goBack 13 = .ok (.if_icmp .le 4, 3) := by decide +kernel
theorem d_Ru_goBack_16 : decode b_Ru_goBack 16 = .ok (.return_, 1) := by decide +kernel
theorem d_Ru_goBack_17 : decode b_Ru_goBack 17 = .ok (.aload_n 0, 1) := by decide +kernel
theorem d_Ru_goBack_18 : decode b_Ru_goBack 18 = .ok (.dup, 1) := by decide +kernel
theorem d_Ru_goBack_19 : decode b_Ru_goBack 19 = .ok (.getfield 47, 3) := by decide +kernel
theorem d_Ru_goBack_22 : decode b_Ru_goBack 22 = .ok (.iconst 1, 1) := by decide +kernel
theorem d_Ru_goBack_23 : decode b_Ru_goBack 23 = .ok (.isub, 1) := by decide +kernel
theorem d_Ru_goBack_24 : decode b_Ru_goBack 24 = .ok (.putfield 47, 3) := by decide +kernel
theorem d_Ru_goBack_27 : decode b_Ru_goBack 27 = .ok (.aload_n 0, 1) := by decide +kernel
theorem d_Ru_goBack_28 : decode b_Ru_goBack 28 = .ok (.aload_n 0, 1) := by decide +kernel
theorem d_Ru_goBack_29 : decode b_Ru_goBack 29 = .ok (.getfield 9, 3) := by decide +kernel
theorem d_Ru_goBack_32 : decode b_Ru_goBack 32 = .ok (.aload_n 0, 1) := by decide +kernel
theorem d_Ru_goBack_33 : decode b_Ru_goBack 33 = .ok (.getfield 47, 3) := by decide +kernel
theorem d_Ru_goBack_36 : decode b_Ru_goBack 36 = .ok (.iaload, 1) := by decide +kernel
theorem d_Ru_goBack_37 : decode b_Ru_goBack 37 = .ok (.putfield 62, 3) := by decide +kernel
theorem d_Ru_goBack_40 : decode b_Ru_goBack 40 = .ok (.aload_n 0, 1) := by decide +kernel
theorem d_Ru_goBack_41 : decode b_Ru_goBack 41 = .ok (.aload_n 0, 1) := by decide +kernel
theorem d_Ru_goBack_42 : decode b_Ru_goBack 42 = .ok (.getfield 15, 3) := by decide +kernel
theorem d_Ru_goBack_45 : decode b_Ru_goBack 45 = .ok (.aload_n 0, 1) := by decide +kernel
theorem d_Ru_goBack_46 : decode b_Ru_goBack 46 = .ok (.getfield 47, 3) := by decide +kernel
theorem d_Ru_goBack_49 : decode b_Ru_goBack 49 = .ok (.iaload, 1) := by decide +kernel
theorem d_Ru_goBack_50 : decode b_Ru_goBack 50 = .ok (.putfield 65, 3) := by decide +kernel
theorem d_Ru_goBack_53 : decode b_Ru_goBack 53 = .ok (.aload_n 0, 1) := by decide +kernel
theorem d_Ru_goBack_54 : decode b_Ru_goBack 54 = .ok (.aload_n 0, 1) := by decide +kernel
theorem d_Ru_goBack_55 : decode b_Ru_goBack 55 = .ok (.getfield 18, 3) := by decide +kernel
theorem d_Ru_goBack_58 : decode b_Ru_goBack 58 = .ok (.aload_n 0, 1) := by decide +kernel
theorem d_Ru_goBack_59 : decode b_Ru_goBack 59 = .ok (.getfield 47, 3) := by decide +kernel
theorem d_Ru_goBack_62 : decode b_Ru_goBack 62 = .ok (.iaload, 1) := by decide +kernel
theorem d_Ru_goBack_63 : decode b_Ru_goBack 63 = .ok (.putfield 68, 3) := by decide +kernel
theorem d_Ru_goBack_66 : decode b_Ru_goBack 66 = .ok (.return_, 1) := by decide +kernel
def r_Ru_goBack (n : Nat) (ru : T_ru)  : Option (T_ru) := if (ru_waiting ru) ≤ 0 then some (ru) else if (ru_waiting ru) ≤ (16 : Int32) then gr (ru_waitingUnits (ru_waiting_s ru ((ru_waiting ru) - (1 : Int32)))) (ru_waiting (ru_waiting_s ru ((ru_waiting ru) - (1 : Int32)))) 16 (fun v4 => gr (ru_waitingNexts (ru_unit_s (ru_waiting_s ru ((ru_waiting ru) - (1 : Int32))) v4)) (ru_waiting (ru_unit_s (ru_waiting_s ru ((ru_waiting ru) - (1 : Int32))) v4)) 16 (fun v6 => gr (ru_waitingBases (ru_next_s (ru_unit_s (ru_waiting_s ru ((ru_waiting ru) - (1 : Int32))) v4) v6)) (ru_waiting (ru_next_s (ru_unit_s (ru_waiting_s ru ((ru_waiting ru) - (1 : Int32))) v4) v6)) 16 (fun v8 => some ((ru_base_s (ru_next_s (ru_unit_s (ru_waiting_s ru ((ru_waiting ru) - (1 : Int32))) v4) v6) v8))))) else some (ru)
def rm_Ru_goBack : Jvm.Room := { frames := 0, cells := 0, slots := 0, locals := 0 }
set_option maxHeartbeats 4000000 in
set_option maxRecDepth 100000 in
theorem c_Ru_goBack {l : Launch} {D : va_G} {cI cL : ClassId} {ad : Nat → Nat} {ma : T_ma} {ko : T_ko} {sh : T_sh} {lo : T_lo} {de : T_de} {wa : T_wa} {me : T_me} {ru : T_ru} {ws0 : va_W} {sz n : Nat}  {ru9 : T_ru} (hw : ws0 = (wX cI cL ad ma ko sh lo de wa me ru)) (h : r_Ru_goBack n ru  = some ru9) : Met l y_Ru_goBack (Cond.code y_Ru_goBack b_Ru_goBack 1 none :: TB) rm_Ru_goBack (PreW D clX (tyX cI cL) ws0 [.ref (ad 22)] sz) (PstV D clX (tyX cI cL) ws0 (wX cI cL ad ma ko sh lo de wa me (ru9)) sz) 0 0 (va_A ws0 sz) := by
  refine k_met (by decide) (Nat.le_of_ble_eq_true rfl) ?_
  intro p e s m below meth c ls hx hb hr hml hts hown hlk hnm hsz hP hK hD hA hz hl
  have hP : va_P D clX (wX cI cL ad ma ko sh lo de wa me ru) s.heap := by rw [← hw]; exact hP
  have hD : va_D (va_A ws0 sz) (wX cI cL ad ma ko sh lo de wa me ru) := by rw [← hw]; exact hD
  have hS : va_S (va_A ws0 sz) s.heap s.heap [] := va_S.rf
  have hl : lv_has ls 1 [(0, .ref (ad 22))] := hl
  generalize hQ : MQ below (PstV D clX (tyX cI cL) ws0 (wX cI cL ad ma ko sh lo de wa me (ru9)) sz) [.ref (ad 22)].toArray s 0 0 (va_A ws0 sz) = Q
  unfold r_Ru_goBack at h
  refine lv_aload_n hx hb d_Ru_goBack_0 rfl (lv_at hl 0 rfl) ?_
  refine rd_Ru_waiting hx hb hts hown hK hP lk_188 (v := (ru_waiting ru)) rfl d_Ru_goBack_1 ?_
  refine lv_if_le (tgt := 16) hx hb d_Ru_goBack_4 (by decide) (fun c1 => ?_) (fun c1 => ?_)
  · rw [if_pos c1] at h
    cases h
    subst hQ
    exact k_vret hx hb hr hlk hP hK hD hS d_Ru_goBack_16
  · rw [if_neg c1] at h
    refine lv_aload_n hx hb d_Ru_goBack_7 rfl (lv_at hl 0 rfl) ?_
    refine rd_Ru_waiting hx hb hts hown hK hP lk_188 (v := (ru_waiting ru)) rfl d_Ru_goBack_8 ?_
    refine lv_bipush (v := 16) hx hb d_Ru_goBack_11 (by decide) ?_
    refine lv_icmp_le (tgt := 17) hx hb d_Ru_goBack_13 (by decide) (fun c2 => ?_) (fun c2 => ?_)
    · rw [if_pos c2] at h
      refine lv_aload_n hx hb d_Ru_goBack_17 rfl (lv_at hl 0 rfl) ?_
      refine lv_dup hx hb d_Ru_goBack_18 rfl ?_
      refine rd_Ru_waiting hx hb hts hown hK hP lk_188 (v := (ru_waiting ru)) rfl d_Ru_goBack_19 ?_
      refine lv_iconst (v := 1) hx hb d_Ru_goBack_22 (by decide) ?_
      refine lv_isub hx hb d_Ru_goBack_23 ?_
      refine wr_Ru_waiting hx hb hts hown hK hP hD hS lk_188 d_Ru_goBack_24 (fun H locs hP hD hS => ?_)
      refine lv_aload_n hx hb d_Ru_goBack_27 rfl (lv_at hl 0 rfl) ?_
      refine lv_aload_n hx hb d_Ru_goBack_28 rfl (lv_at hl 0 rfl) ?_
      refine rd_Ru_waitingUnits hx hb hts hown hK hP lk_185 d_Ru_goBack_29 ?_
      refine lv_aload_n hx hb d_Ru_goBack_32 rfl (lv_at hl 0 rfl) ?_
      refine rd_Ru_waiting hx hb hts hown hK hP lk_188 (v := (ru_waiting (ru_waiting_s ru ((ru_waiting ru) - (1 : Int32))))) rfl d_Ru_goBack_33 ?_
      obtain ⟨hi3, v4, ev4, h⟩ := gr_some h
      refine ld_Ru_waitingUnits hx hb hK hP hi3 ev4 d_Ru_goBack_36 ?_
      refine wr_Ru_unit hx hb hts hown hK hP hD hS lk_189 d_Ru_goBack_37 (fun H locs hP hD hS => ?_)
      refine lv_aload_n hx hb d_Ru_goBack_40 rfl (lv_at hl 0 rfl) ?_
      refine lv_aload_n hx hb d_Ru_goBack_41 rfl (lv_at hl 0 rfl) ?_
      refine rd_Ru_waitingNexts hx hb hts hown hK hP lk_186 d_Ru_goBack_42 ?_
      refine lv_aload_n hx hb d_Ru_goBack_45 rfl (lv_at hl 0 rfl) ?_
      refine rd_Ru_waiting hx hb hts hown hK hP lk_188 (v := (ru_waiting (ru_unit_s (ru_waiting_s ru ((ru_waiting ru) - (1 : Int32))) v4))) rfl d_Ru_goBack_46 ?_
      obtain ⟨hi5, v6, ev6, h⟩ := gr_some h
      refine ld_Ru_waitingNexts hx hb hK hP hi5 ev6 d_Ru_goBack_49 ?_
      refine wr_Ru_next hx hb hts hown hK hP hD hS lk_190 d_Ru_goBack_50 (fun H locs hP hD hS => ?_)
      refine lv_aload_n hx hb d_Ru_goBack_53 rfl (lv_at hl 0 rfl) ?_
      refine lv_aload_n hx hb d_Ru_goBack_54 rfl (lv_at hl 0 rfl) ?_
      refine rd_Ru_waitingBases hx hb hts hown hK hP lk_187 d_Ru_goBack_55 ?_
      refine lv_aload_n hx hb d_Ru_goBack_58 rfl (lv_at hl 0 rfl) ?_
      refine rd_Ru_waiting hx hb hts hown hK hP lk_188 (v := (ru_waiting (ru_next_s (ru_unit_s (ru_waiting_s ru ((ru_waiting ru) - (1 : Int32))) v4) v6))) rfl d_Ru_goBack_59 ?_
      obtain ⟨hi7, v8, ev8, h⟩ := gr_some h
      refine ld_Ru_waitingBases hx hb hK hP hi7 ev8 d_Ru_goBack_62 ?_
      refine wr_Ru_base hx hb hts hown hK hP hD hS lk_191 d_Ru_goBack_63 (fun H locs hP hD hS => ?_)
      cases h
      subst hQ
      exact k_vret hx hb hr hlk hP hK hD hS d_Ru_goBack_66
    · rw [if_neg c2] at h
      cases h
      subst hQ
      exact k_vret hx hb hr hlk hP hK hD hS d_Ru_goBack_16
theorem d_Ru_descend_0 : decode b_Ru_descend 0 = .ok (.aload_n 0, 1) := by decide +kernel
theorem d_Ru_descend_1 : decode b_Ru_descend 1 = .ok (.getfield 47, 3) := by decide +kernel
theorem d_Ru_descend_4 : decode b_Ru_descend 4 = .ok (.ifCond .lt 12, 3) := by decide +kernel
theorem d_Ru_descend_7 : decode b_Ru_descend 7 = .ok (.aload_n 0, 1) := by decide +kernel
theorem d_Ru_descend_8 : decode b_Ru_descend 8 = .ok (.getfield 47, 3) := by decide +kernel
theorem d_Ru_descend_11 : decode b_Ru_descend 11 = .ok (.bipush 16, 2) := by decide +kernel
theorem d_Ru_descend_13 : decode b_Ru_descend 13 = .ok (.if_icmp .lt 4, 3) := by decide +kernel
theorem d_Ru_descend_16 : decode b_Ru_descend 16 = .ok (.return_, 1) := by decide +kernel
theorem d_Ru_descend_17 : decode b_Ru_descend 17 = .ok (.aload_n 0, 1) := by decide +kernel
theorem d_Ru_descend_18 : decode b_Ru_descend 18 = .ok (.getfield 9, 3) := by decide +kernel
theorem d_Ru_descend_21 : decode b_Ru_descend 21 = .ok (.aload_n 0, 1) := by decide +kernel
theorem d_Ru_descend_22 : decode b_Ru_descend 22 = .ok (.getfield 47, 3) := by decide +kernel
theorem d_Ru_descend_25 : decode b_Ru_descend 25 = .ok (.aload_n 0, 1) := by decide +kernel
theorem d_Ru_descend_26 : decode b_Ru_descend 26 = .ok (.getfield 62, 3) := by decide +kernel
theorem d_Ru_descend_29 : decode b_Ru_descend 29 = .ok (.iastore, 1) := by decide +kernel
theorem d_Ru_descend_30 : decode b_Ru_descend 30 = .ok (.aload_n 0, 1) := by decide +kernel
theorem d_Ru_descend_31 : decode b_Ru_descend 31 = .ok (.getfield 15, 3) := by decide +kernel
theorem d_Ru_descend_34 : decode b_Ru_descend 34 = .ok (.aload_n 0, 1) := by decide +kernel
theorem d_Ru_descend_35 : decode b_Ru_descend 35 = .ok (.getfield 47, 3) := by decide +kernel
theorem d_Ru_descend_38 : decode b_Ru_descend 38 = .ok (.aload_n 0, 1) := by decide +kernel
theorem d_Ru_descend_39 : decode b_Ru_descend 39 = .ok (.getfield 65, 3) := by decide +kernel
theorem d_Ru_descend_42 : decode b_Ru_descend 42 = .ok (.iastore, 1) := by decide +kernel
theorem d_Ru_descend_43 : decode b_Ru_descend 43 = .ok (.aload_n 0, 1) := by decide +kernel
theorem d_Ru_descend_44 : decode b_Ru_descend 44 = .ok (.getfield 18, 3) := by decide +kernel
theorem d_Ru_descend_47 : decode b_Ru_descend 47 = .ok (.aload_n 0, 1) := by decide +kernel
theorem d_Ru_descend_48 : decode b_Ru_descend 48 = .ok (.getfield 47, 3) := by decide +kernel
theorem d_Ru_descend_51 : decode b_Ru_descend 51 = .ok (.aload_n 0, 1) := by decide +kernel
theorem d_Ru_descend_52 : decode b_Ru_descend 52 = .ok (.getfield 68, 3) := by decide +kernel
theorem d_Ru_descend_55 : decode b_Ru_descend 55 = .ok (.iastore, 1) := by decide +kernel
theorem d_Ru_descend_56 : decode b_Ru_descend 56 = .ok (.aload_n 0, 1) := by decide +kernel
theorem d_Ru_descend_57 : decode b_Ru_descend 57 = .ok (.dup, 1) := by decide +kernel
theorem d_Ru_descend_58 : decode b_Ru_descend 58 = .ok (.getfield 47, 3) := by decide +kernel
theorem d_Ru_descend_61 : decode b_Ru_descend 61 = .ok (.iconst 1, 1) := by decide +kernel
theorem d_Ru_descend_62 : decode b_Ru_descend 62 = .ok (.iadd, 1) := by decide +kernel
theorem d_Ru_descend_63 : decode b_Ru_descend 63 = .ok (.putfield 47, 3) := by decide +kernel
theorem d_Ru_descend_66 : decode b_Ru_descend 66 = .ok (.aload_n 0, 1) := by decide +kernel
theorem d_Ru_descend_67 : decode b_Ru_descend 67 = .ok (.iload_n 1, 1) := by decide +kernel
theorem d_Ru_descend_68 : decode b_Ru_descend 68 = .ok (.putfield 62, 3) := by decide +kernel
theorem d_Ru_descend_71 : decode b_Ru_descend 71 = .ok (.aload_n 0, 1) := by decide +kernel
theorem d_Ru_descend_72 : decode b_Ru_descend 72 = .ok (.iconst 0, 1) := by decide +kernel
theorem d_Ru_descend_73 : decode b_Ru_descend 73 = .ok (.putfield 65, 3) := by decide +kernel
theorem d_Ru_descend_76 : decode b_Ru_descend 76 = .ok (.aload_n 0, 1) := by decide +kernel
theorem d_Ru_descend_77 : decode b_Ru_descend 77 = .ok (.iload_n 2, 1) := by decide +kernel
theorem d_Ru_descend_78 : decode b_Ru_descend 78 = .ok (.putfield 68, 3) := by decide +kernel
theorem d_Ru_descend_81 : decode b_Ru_descend 81 = .ok (.return_, 1) := by decide +kernel
def r_Ru_descend (n : Nat) (ru : T_ru) (a0 : Int32) (a1 : Int32) : Option (T_ru) := if (ru_waiting ru) < 0 then some (ru) else if (ru_waiting ru) < (16 : Int32) then ga (ru_waiting ru) 16 (ga (ru_waiting (ru_waitingUnits_s ru (upd (ru_waitingUnits ru) (ru_waiting ru).toNatClampNeg (ru_unit ru)))) 16 (ga (ru_waiting (ru_waitingNexts_s (ru_waitingUnits_s ru (upd (ru_waitingUnits ru) (ru_waiting ru).toNatClampNeg (ru_unit ru))) (upd (ru_waitingNexts (ru_waitingUnits_s ru (upd (ru_waitingUnits ru) (ru_waiting ru).toNatClampNeg (ru_unit ru)))) (ru_waiting (ru_waitingUnits_s ru (upd (ru_waitingUnits ru) (ru_waiting ru).toNatClampNeg (ru_unit ru)))).toNatClampNeg (ru_next (ru_waitingUnits_s ru (upd (ru_waitingUnits ru) (ru_waiting ru).toNatClampNeg (ru_unit ru))))))) 16 (some ((ru_base_s (ru_next_s (ru_unit_s (ru_waiting_s (ru_waitingBases_s (ru_waitingNexts_s (ru_waitingUnits_s ru (upd (ru_waitingUnits ru) (ru_waiting ru).toNatClampNeg (ru_unit ru))) (upd (ru_waitingNexts (ru_waitingUnits_s ru (upd (ru_waitingUnits ru) (ru_waiting ru).toNatClampNeg (ru_unit ru)))) (ru_waiting (ru_waitingUnits_s ru (upd (ru_waitingUnits ru) (ru_waiting ru).toNatClampNeg (ru_unit ru)))).toNatClampNeg (ru_next (ru_waitingUnits_s ru (upd (ru_waitingUnits ru) (ru_waiting ru).toNatClampNeg (ru_unit ru)))))) (upd (ru_waitingBases (ru_waitingNexts_s (ru_waitingUnits_s ru (upd (ru_waitingUnits ru) (ru_waiting ru).toNatClampNeg (ru_unit ru))) (upd (ru_waitingNexts (ru_waitingUnits_s ru (upd (ru_waitingUnits ru) (ru_waiting ru).toNatClampNeg (ru_unit ru)))) (ru_waiting (ru_waitingUnits_s ru (upd (ru_waitingUnits ru) (ru_waiting ru).toNatClampNeg (ru_unit ru)))).toNatClampNeg (ru_next (ru_waitingUnits_s ru (upd (ru_waitingUnits ru) (ru_waiting ru).toNatClampNeg (ru_unit ru))))))) (ru_waiting (ru_waitingNexts_s (ru_waitingUnits_s ru (upd (ru_waitingUnits ru) (ru_waiting ru).toNatClampNeg (ru_unit ru))) (upd (ru_waitingNexts (ru_waitingUnits_s ru (upd (ru_waitingUnits ru) (ru_waiting ru).toNatClampNeg (ru_unit ru)))) (ru_waiting (ru_waitingUnits_s ru (upd (ru_waitingUnits ru) (ru_waiting ru).toNatClampNeg (ru_unit ru)))).toNatClampNeg (ru_next (ru_waitingUnits_s ru (upd (ru_waitingUnits ru) (ru_waiting ru).toNatClampNeg (ru_unit ru))))))).toNatClampNeg (ru_base (ru_waitingNexts_s (ru_waitingUnits_s ru (upd (ru_waitingUnits ru) (ru_waiting ru).toNatClampNeg (ru_unit ru))) (upd (ru_waitingNexts (ru_waitingUnits_s ru (upd (ru_waitingUnits ru) (ru_waiting ru).toNatClampNeg (ru_unit ru)))) (ru_waiting (ru_waitingUnits_s ru (upd (ru_waitingUnits ru) (ru_waiting ru).toNatClampNeg (ru_unit ru)))).toNatClampNeg (ru_next (ru_waitingUnits_s ru (upd (ru_waitingUnits ru) (ru_waiting ru).toNatClampNeg (ru_unit ru))))))))) ((ru_waiting (ru_waitingBases_s (ru_waitingNexts_s (ru_waitingUnits_s ru (upd (ru_waitingUnits ru) (ru_waiting ru).toNatClampNeg (ru_unit ru))) (upd (ru_waitingNexts (ru_waitingUnits_s ru (upd (ru_waitingUnits ru) (ru_waiting ru).toNatClampNeg (ru_unit ru)))) (ru_waiting (ru_waitingUnits_s ru (upd (ru_waitingUnits ru) (ru_waiting ru).toNatClampNeg (ru_unit ru)))).toNatClampNeg (ru_next (ru_waitingUnits_s ru (upd (ru_waitingUnits ru) (ru_waiting ru).toNatClampNeg (ru_unit ru)))))) (upd (ru_waitingBases (ru_waitingNexts_s (ru_waitingUnits_s ru (upd (ru_waitingUnits ru) (ru_waiting ru).toNatClampNeg (ru_unit ru))) (upd (ru_waitingNexts (ru_waitingUnits_s ru (upd (ru_waitingUnits ru) (ru_waiting ru).toNatClampNeg (ru_unit ru)))) (ru_waiting (ru_waitingUnits_s ru (upd (ru_waitingUnits ru) (ru_waiting ru).toNatClampNeg (ru_unit ru)))).toNatClampNeg (ru_next (ru_waitingUnits_s ru (upd (ru_waitingUnits ru) (ru_waiting ru).toNatClampNeg (ru_unit ru))))))) (ru_waiting (ru_waitingNexts_s (ru_waitingUnits_s ru (upd (ru_waitingUnits ru) (ru_waiting ru).toNatClampNeg (ru_unit ru))) (upd (ru_waitingNexts (ru_waitingUnits_s ru (upd (ru_waitingUnits ru) (ru_waiting ru).toNatClampNeg (ru_unit ru)))) (ru_waiting (ru_waitingUnits_s ru (upd (ru_waitingUnits ru) (ru_waiting ru).toNatClampNeg (ru_unit ru)))).toNatClampNeg (ru_next (ru_waitingUnits_s ru (upd (ru_waitingUnits ru) (ru_waiting ru).toNatClampNeg (ru_unit ru))))))).toNatClampNeg (ru_base (ru_waitingNexts_s (ru_waitingUnits_s ru (upd (ru_waitingUnits ru) (ru_waiting ru).toNatClampNeg (ru_unit ru))) (upd (ru_waitingNexts (ru_waitingUnits_s ru (upd (ru_waitingUnits ru) (ru_waiting ru).toNatClampNeg (ru_unit ru)))) (ru_waiting (ru_waitingUnits_s ru (upd (ru_waitingUnits ru) (ru_waiting ru).toNatClampNeg (ru_unit ru)))).toNatClampNeg (ru_next (ru_waitingUnits_s ru (upd (ru_waitingUnits ru) (ru_waiting ru).toNatClampNeg (ru_unit ru)))))))))) + (1 : Int32))) a0) (0 : Int32)) a1))))) else some (ru)
def rm_Ru_descend : Jvm.Room := { frames := 0, cells := 0, slots := 0, locals := 0 }
set_option maxHeartbeats 4000000 in
set_option maxRecDepth 100000 in
theorem c_Ru_descend {l : Launch} {D : va_G} {cI cL : ClassId} {ad : Nat → Nat} {ma : T_ma} {ko : T_ko} {sh : T_sh} {lo : T_lo} {de : T_de} {wa : T_wa} {me : T_me} {ru : T_ru} {ws0 : va_W} {sz n : Nat} {a0 : Int32} {a1 : Int32} {ru9 : T_ru} (hw : ws0 = (wX cI cL ad ma ko sh lo de wa me ru)) (h : r_Ru_descend n ru a0 a1 = some ru9) : Met l y_Ru_descend (Cond.code y_Ru_descend b_Ru_descend 3 none :: TB) rm_Ru_descend (PreW D clX (tyX cI cL) ws0 [.ref (ad 22), .int a0, .int a1] sz) (PstV D clX (tyX cI cL) ws0 (wX cI cL ad ma ko sh lo de wa me (ru9)) sz) 0 0 (va_A ws0 sz) := by
  refine k_met (by decide) (Nat.le_of_ble_eq_true rfl) ?_
  intro p e s m below meth c ls hx hb hr hml hts hown hlk hnm hsz hP hK hD hA hz hl
  have hP : va_P D clX (wX cI cL ad ma ko sh lo de wa me ru) s.heap := by rw [← hw]; exact hP
  have hD : va_D (va_A ws0 sz) (wX cI cL ad ma ko sh lo de wa me ru) := by rw [← hw]; exact hD
  have hS : va_S (va_A ws0 sz) s.heap s.heap [] := va_S.rf
  have hl : lv_has ls 3 [(0, .ref (ad 22)), (1, .int a0), (2, .int a1)] := hl
  generalize hQ : MQ below (PstV D clX (tyX cI cL) ws0 (wX cI cL ad ma ko sh lo de wa me (ru9)) sz) [.ref (ad 22), .int a0, .int a1].toArray s 0 0 (va_A ws0 sz) = Q
  unfold r_Ru_descend at h
  refine lv_aload_n hx hb d_Ru_descend_0 rfl (lv_at hl 0 rfl) ?_
  refine rd_Ru_waiting hx hb hts hown hK hP lk_188 (v := (ru_waiting ru)) rfl d_Ru_descend_1 ?_
  refine lv_if_lt (tgt := 16) hx hb d_Ru_descend_4 (by decide) (fun c1 => ?_) (fun c1 => ?_)
  · rw [if_pos c1] at h
    cases h
    subst hQ
    exact k_vret hx hb hr hlk hP hK hD hS d_Ru_descend_16
  · rw [if_neg c1] at h
    refine lv_aload_n hx hb d_Ru_descend_7 rfl (lv_at hl 0 rfl) ?_
    refine rd_Ru_waiting hx hb hts hown hK hP lk_188 (v := (ru_waiting ru)) rfl d_Ru_descend_8 ?_
    refine lv_bipush (v := 16) hx hb d_Ru_descend_11 (by decide) ?_
    refine lv_icmp_lt (tgt := 17) hx hb d_Ru_descend_13 (by decide) (fun c2 => ?_) (fun c2 => ?_)
    · rw [if_pos c2] at h
      refine lv_aload_n hx hb d_Ru_descend_17 rfl (lv_at hl 0 rfl) ?_
      refine rd_Ru_waitingUnits hx hb hts hown hK hP lk_185 d_Ru_descend_18 ?_
      refine lv_aload_n hx hb d_Ru_descend_21 rfl (lv_at hl 0 rfl) ?_
      refine rd_Ru_waiting hx hb hts hown hK hP lk_188 (v := (ru_waiting ru)) rfl d_Ru_descend_22 ?_
      refine lv_aload_n hx hb d_Ru_descend_25 rfl (lv_at hl 0 rfl) ?_
      refine rd_Ru_unit hx hb hts hown hK hP lk_189 (v := (ru_unit ru)) rfl d_Ru_descend_26 ?_
      obtain ⟨hi3, h⟩ := ga_some h
      refine st_Ru_waitingUnits hx hb hK hP hD hS hi3 d_Ru_descend_29 (fun H locs hP hD hS => ?_)
      refine lv_aload_n hx hb d_Ru_descend_30 rfl (lv_at hl 0 rfl) ?_
      refine rd_Ru_waitingNexts hx hb hts hown hK hP lk_186 d_Ru_descend_31 ?_
      refine lv_aload_n hx hb d_Ru_descend_34 rfl (lv_at hl 0 rfl) ?_
      refine rd_Ru_waiting hx hb hts hown hK hP lk_188 (v := (ru_waiting (ru_waitingUnits_s ru (upd (ru_waitingUnits ru) (ru_waiting ru).toNatClampNeg (ru_unit ru))))) rfl d_Ru_descend_35 ?_
      refine lv_aload_n hx hb d_Ru_descend_38 rfl (lv_at hl 0 rfl) ?_
      refine rd_Ru_next hx hb hts hown hK hP lk_190 (v := (ru_next (ru_waitingUnits_s ru (upd (ru_waitingUnits ru) (ru_waiting ru).toNatClampNeg (ru_unit ru))))) rfl d_Ru_descend_39 ?_
      obtain ⟨hi4, h⟩ := ga_some h
      refine st_Ru_waitingNexts hx hb hK hP hD hS hi4 d_Ru_descend_42 (fun H locs hP hD hS => ?_)
      refine lv_aload_n hx hb d_Ru_descend_43 rfl (lv_at hl 0 rfl) ?_
      refine rd_Ru_waitingBases hx hb hts hown hK hP lk_187 d_Ru_descend_44 ?_
      refine lv_aload_n hx hb d_Ru_descend_47 rfl (lv_at hl 0 rfl) ?_
      refine rd_Ru_waiting hx hb hts hown hK hP lk_188 (v := (ru_waiting (ru_waitingNexts_s (ru_waitingUnits_s ru (upd (ru_waitingUnits ru) (ru_waiting ru).toNatClampNeg (ru_unit ru))) (upd (ru_waitingNexts (ru_waitingUnits_s ru (upd (ru_waitingUnits ru) (ru_waiting ru).toNatClampNeg (ru_unit ru)))) (ru_waiting (ru_waitingUnits_s ru (upd (ru_waitingUnits ru) (ru_waiting ru).toNatClampNeg (ru_unit ru)))).toNatClampNeg (ru_next (ru_waitingUnits_s ru (upd (ru_waitingUnits ru) (ru_waiting ru).toNatClampNeg (ru_unit ru)))))))) rfl d_Ru_descend_48 ?_
      refine lv_aload_n hx hb d_Ru_descend_51 rfl (lv_at hl 0 rfl) ?_
      refine rd_Ru_base hx hb hts hown hK hP lk_191 (v := (ru_base (ru_waitingNexts_s (ru_waitingUnits_s ru (upd (ru_waitingUnits ru) (ru_waiting ru).toNatClampNeg (ru_unit ru))) (upd (ru_waitingNexts (ru_waitingUnits_s ru (upd (ru_waitingUnits ru) (ru_waiting ru).toNatClampNeg (ru_unit ru)))) (ru_waiting (ru_waitingUnits_s ru (upd (ru_waitingUnits ru) (ru_waiting ru).toNatClampNeg (ru_unit ru)))).toNatClampNeg (ru_next (ru_waitingUnits_s ru (upd (ru_waitingUnits ru) (ru_waiting ru).toNatClampNeg (ru_unit ru)))))))) rfl d_Ru_descend_52 ?_
      obtain ⟨hi5, h⟩ := ga_some h
      refine st_Ru_waitingBases hx hb hK hP hD hS hi5 d_Ru_descend_55 (fun H locs hP hD hS => ?_)
      refine lv_aload_n hx hb d_Ru_descend_56 rfl (lv_at hl 0 rfl) ?_
      refine lv_dup hx hb d_Ru_descend_57 rfl ?_
      refine rd_Ru_waiting hx hb hts hown hK hP lk_188 (v := (ru_waiting (ru_waitingBases_s (ru_waitingNexts_s (ru_waitingUnits_s ru (upd (ru_waitingUnits ru) (ru_waiting ru).toNatClampNeg (ru_unit ru))) (upd (ru_waitingNexts (ru_waitingUnits_s ru (upd (ru_waitingUnits ru) (ru_waiting ru).toNatClampNeg (ru_unit ru)))) (ru_waiting (ru_waitingUnits_s ru (upd (ru_waitingUnits ru) (ru_waiting ru).toNatClampNeg (ru_unit ru)))).toNatClampNeg (ru_next (ru_waitingUnits_s ru (upd (ru_waitingUnits ru) (ru_waiting ru).toNatClampNeg (ru_unit ru)))))) (upd (ru_waitingBases (ru_waitingNexts_s (ru_waitingUnits_s ru (upd (ru_waitingUnits ru) (ru_waiting ru).toNatClampNeg (ru_unit ru))) (upd (ru_waitingNexts (ru_waitingUnits_s ru (upd (ru_waitingUnits ru) (ru_waiting ru).toNatClampNeg (ru_unit ru)))) (ru_waiting (ru_waitingUnits_s ru (upd (ru_waitingUnits ru) (ru_waiting ru).toNatClampNeg (ru_unit ru)))).toNatClampNeg (ru_next (ru_waitingUnits_s ru (upd (ru_waitingUnits ru) (ru_waiting ru).toNatClampNeg (ru_unit ru))))))) (ru_waiting (ru_waitingNexts_s (ru_waitingUnits_s ru (upd (ru_waitingUnits ru) (ru_waiting ru).toNatClampNeg (ru_unit ru))) (upd (ru_waitingNexts (ru_waitingUnits_s ru (upd (ru_waitingUnits ru) (ru_waiting ru).toNatClampNeg (ru_unit ru)))) (ru_waiting (ru_waitingUnits_s ru (upd (ru_waitingUnits ru) (ru_waiting ru).toNatClampNeg (ru_unit ru)))).toNatClampNeg (ru_next (ru_waitingUnits_s ru (upd (ru_waitingUnits ru) (ru_waiting ru).toNatClampNeg (ru_unit ru))))))).toNatClampNeg (ru_base (ru_waitingNexts_s (ru_waitingUnits_s ru (upd (ru_waitingUnits ru) (ru_waiting ru).toNatClampNeg (ru_unit ru))) (upd (ru_waitingNexts (ru_waitingUnits_s ru (upd (ru_waitingUnits ru) (ru_waiting ru).toNatClampNeg (ru_unit ru)))) (ru_waiting (ru_waitingUnits_s ru (upd (ru_waitingUnits ru) (ru_waiting ru).toNatClampNeg (ru_unit ru)))).toNatClampNeg (ru_next (ru_waitingUnits_s ru (upd (ru_waitingUnits ru) (ru_waiting ru).toNatClampNeg (ru_unit ru))))))))))) rfl d_Ru_descend_58 ?_
      refine lv_iconst (v := 1) hx hb d_Ru_descend_61 (by decide) ?_
      refine lv_iadd hx hb d_Ru_descend_62 ?_
      refine wr_Ru_waiting hx hb hts hown hK hP hD hS lk_188 d_Ru_descend_63 (fun H locs hP hD hS => ?_)
      refine lv_aload_n hx hb d_Ru_descend_66 rfl (lv_at hl 0 rfl) ?_
      refine lv_iload_n hx hb d_Ru_descend_67 rfl (lv_at hl 1 rfl) ?_
      refine wr_Ru_unit hx hb hts hown hK hP hD hS lk_189 d_Ru_descend_68 (fun H locs hP hD hS => ?_)
      refine lv_aload_n hx hb d_Ru_descend_71 rfl (lv_at hl 0 rfl) ?_
      refine lv_iconst (v := 0) hx hb d_Ru_descend_72 (by decide) ?_
      refine wr_Ru_next hx hb hts hown hK hP hD hS lk_190 d_Ru_descend_73 (fun H locs hP hD hS => ?_)
      refine lv_aload_n hx hb d_Ru_descend_76 rfl (lv_at hl 0 rfl) ?_
      refine lv_iload_n hx hb d_Ru_descend_77 rfl (lv_at hl 2 rfl) ?_
      refine wr_Ru_base hx hb hts hown hK hP hD hS lk_191 d_Ru_descend_78 (fun H locs hP hD hS => ?_)
      cases h
      subst hQ
      exact k_vret hx hb hr hlk hP hK hD hS d_Ru_descend_81
    · rw [if_neg c2] at h
      cases h
      subst hQ
      exact k_vret hx hb hr hlk hP hK hD hS d_Ru_descend_16
theorem d_Ru_countDown_0 : decode b_Ru_countDown 0 = .ok (.aload_n 0, 1) := by decide +kernel
theorem d_Ru_countDown_1 : decode b_Ru_countDown 1 = .ok (.getfield 25, 3) := by decide +kernel
theorem d_Ru_countDown_4 : decode b_Ru_countDown 4 = .ok (.iload_n 1, 1) := by decide +kernel
theorem d_Ru_countDown_5 : decode b_Ru_countDown 5 = .ok (.invokevirtual 114, 3) := by decide +kernel
theorem d_Ru_countDown_8 : decode b_Ru_countDown 8 = .ok (.istore_n 3, 1) := by decide +kernel
theorem d_Ru_countDown_9 : decode b_Ru_countDown 9 = .ok (.iload_n 3, 1) := by decide +kernel
theorem d_Ru_countDown_10 : decode b_Ru_countDown 10 = .ok (.ifCond .ne 11, 3) := by decide +kernel
theorem d_Ru_countDown_13 : decode b_Ru_countDown 13 = .ok (.aload_n 0, 1) := by decide +kernel
theorem d_Ru_countDown_14 : decode b_Ru_countDown 14 = .ok (.iload_n 2, 1) := by decide +kernel
theorem d_Ru_countDown_15 : decode b_Ru_countDown 15 = .ok (.putfield 65, 3) := by decide +kernel
theorem d_Ru_countDown_18 : decode b_Ru_countDown 18 = .ok (.goto 14, 3) := by decide +kernel
theorem d_Ru_countDown_21 : decode b_Ru_countDown 21 = .ok (.aload_n 0, 1) := by decide +kernel
theorem d_Ru_countDown_22 : decode b_Ru_countDown 22 = .ok (.getfield 25, 3) := by decide +kernel
theorem d_Ru_countDown_25 : decode b_Ru_countDown 25 = .ok (.iload_n 1, 1) := by decide +kernel
theorem d_Ru_countDown_26 : decode b_Ru_countDown 26 = .ok (.iload_n 3, 1) := by decide +kernel
theorem d_Ru_countDown_27 : decode b_Ru_countDown 27 = .ok (.iconst 1, 1) := by decide +kernel
theorem d_Ru_countDown_28 : decode b_Ru_countDown 28 = .ok (.isub, 1) := by decide +kernel
theorem d_Ru_countDown_29 : decode b_Ru_countDown 29 = .ok (.invokevirtual 120, 3) := by decide +kernel
theorem d_Ru_countDown_32 : decode b_Ru_countDown 32 = .ok (.return_, 1) := by decide +kernel
def r_Ru_countDown (n : Nat) (me : T_me) (ru : T_ru) (a0 : Int32) (a1 : Int32) : Option (T_me × T_ru) := (r_Me_cell n me a0).bind (fun q1 => if q1 = 0 then some (me, (ru_next_s ru a1)) else (r_Me_change n me a0 (q1 - (1 : Int32))).bind (fun q3 => some (q3, ru)))
def rm_Ru_countDown : Jvm.Room := { frames := 1, cells := 0, slots := 0, locals := 22 }
set_option maxHeartbeats 4000000 in
set_option maxRecDepth 100000 in
theorem c_Ru_countDown {l : Launch} {D : va_G} {cI cL : ClassId} {ad : Nat → Nat} {ma : T_ma} {ko : T_ko} {sh : T_sh} {lo : T_lo} {de : T_de} {wa : T_wa} {me : T_me} {ru : T_ru} {ws0 : va_W} {sz n : Nat} {a0 : Int32} {a1 : Int32} {me9 : T_me} {ru9 : T_ru} (hw : ws0 = (wX cI cL ad ma ko sh lo de wa me ru)) (h : r_Ru_countDown n me ru a0 a1 = some (me9, ru9)) : Met l y_Ru_countDown (Cond.code y_Ru_countDown b_Ru_countDown 4 none :: TB) rm_Ru_countDown (PreW D clX (tyX cI cL) ws0 [.ref (ad 22), .int a0, .int a1] sz) (PstV D clX (tyX cI cL) ws0 (wX cI cL ad ma ko sh lo de wa (me9) (ru9)) sz) 0 0 (va_A ws0 sz) := by
  refine k_met (by decide) (Nat.le_of_ble_eq_true rfl) ?_
  intro p e s m below meth c ls hx hb hr hml hts hown hlk hnm hsz hP hK hD hA hz hl
  have hP : va_P D clX (wX cI cL ad ma ko sh lo de wa me ru) s.heap := by rw [← hw]; exact hP
  have hD : va_D (va_A ws0 sz) (wX cI cL ad ma ko sh lo de wa me ru) := by rw [← hw]; exact hD
  have hS : va_S (va_A ws0 sz) s.heap s.heap [] := va_S.rf
  have hl : lv_has ls 4 [(0, .ref (ad 22)), (1, .int a0), (2, .int a1)] := hl
  generalize hQ : MQ below (PstV D clX (tyX cI cL) ws0 (wX cI cL ad ma ko sh lo de wa (me9) (ru9)) sz) [.ref (ad 22), .int a0, .int a1].toArray s 0 0 (va_A ws0 sz) = Q
  unfold r_Ru_countDown at h
  refine lv_aload_n hx hb d_Ru_countDown_0 rfl (lv_at hl 0 rfl) ?_
  refine rd_Ru_memory hx hb hts hown hK hP lk_183 d_Ru_countDown_1 ?_
  refine lv_iload_n hx hb d_Ru_countDown_4 rfl (lv_at hl 1 rfl) ?_
  obtain ⟨q1, hq1, h⟩ := Option.bind_eq_some_iff.mp h
  refine k_I (k_runVN ⟨hx, hb, hml, hown, hts⟩ (c_Me_cell rfl hq1) ok_Me_cell is_Me_cell lk_549 rfl rfl ⟨by decide, by decide⟩ hP hK hD hS hA hz (ci := 6) (q0 := 19) rfl rfl ob_Me rfl hl.1 rfl (Nat.le_of_ble_eq_true rfl) d_Ru_countDown_5 ⟨Nat.zero_le _, Nat.zero_le _⟩) hD hS hA (fun H locs hP hD hS => ?_)
  refine lv_istore_n (lv' := [(3, .int q1), (0, .ref (ad 22)), (1, .int a0), (2, .int a1)]) hx hb d_Ru_countDown_8 rfl hl (by decide) rfl (fun ls hl => ?_)
  refine lv_iload_n hx hb d_Ru_countDown_9 rfl (lv_at hl 0 rfl) ?_
  refine lv_if_ne (tgt := 21) hx hb d_Ru_countDown_10 (by decide) (fun c2 => ?_) (fun c2 => ?_)
  · rw [if_neg c2] at h
    refine lv_aload_n hx hb d_Ru_countDown_21 rfl (lv_at hl 1 rfl) ?_
    refine rd_Ru_memory hx hb hts hown hK hP lk_183 d_Ru_countDown_22 ?_
    refine lv_iload_n hx hb d_Ru_countDown_25 rfl (lv_at hl 2 rfl) ?_
    refine lv_iload_n hx hb d_Ru_countDown_26 rfl (lv_at hl 0 rfl) ?_
    refine lv_iconst (v := 1) hx hb d_Ru_countDown_27 (by decide) ?_
    refine lv_isub hx hb d_Ru_countDown_28 ?_
    obtain ⟨q3, hq3, h⟩ := Option.bind_eq_some_iff.mp h
    refine k_V (k_runVN ⟨hx, hb, hml, hown, hts⟩ (c_Me_change rfl hq3) ok_Me_change is_Me_change lk_557 rfl rfl ⟨by decide, by decide⟩ hP hK hD hS hA hz (ci := 6) (q0 := 19) rfl rfl ob_Me rfl hl.1 rfl (Nat.le_of_ble_eq_true rfl) d_Ru_countDown_29 ⟨Nat.zero_le _, Nat.zero_le _⟩) hD hS hA (fun H locs hP hD hS => ?_)
    cases h
    subst hQ
    exact k_vret hx hb hr hlk hP hK hD hS d_Ru_countDown_32
  · rw [if_pos c2] at h
    refine lv_aload_n hx hb d_Ru_countDown_13 rfl (lv_at hl 1 rfl) ?_
    refine lv_iload_n hx hb d_Ru_countDown_14 rfl (lv_at hl 3 rfl) ?_
    refine wr_Ru_next hx hb hts hown hK hP hD hS lk_190 d_Ru_countDown_15 (fun H locs hP hD hS => ?_)
    refine lv_goto (tgt := 32) hx hb d_Ru_countDown_18 (by decide) ?_
    cases h
    subst hQ
    exact k_vret hx hb hr hlk hP hK hD hS d_Ru_countDown_32
theorem d_Ru_go_0 : decode b_Ru_go 0 = .ok (.iload_n 1, 1) := by decide +kernel
theorem d_Ru_go_1 : decode b_Ru_go 1 = .ok (.tableswitch 163 10 18 #[51, 59, 84, 101, 51, 115, 129, 163, 145], 51) := by decide +kernel
theorem d_Ru_go_52 : decode b_Ru_go 52 = .ok (.aload_n 0, 1) := by decide +kernel
theorem d_Ru_go_53 : decode b_Ru_go 53 = .ok (.iload_n 2, 1) := by decide +kernel
theorem d_Ru_go_54 : decode b_Ru_go 54 = .ok (.putfield 65, 3) := by decide +kernel
theorem d_Ru_go_57 : decode b_Ru_go 57 = .ok (.goto 107, 3) := by decide +kernel
theorem d_Ru_go_60 : decode b_Ru_go 60 = .ok (.aload_n 0, 1) := by decide +kernel
theorem d_Ru_go_61 : decode b_Ru_go 61 = .ok (.aload_n 0, 1) := by decide +kernel
theorem d_Ru_go_62 : decode b_Ru_go 62 = .ok (.getfield 25, 3) := by decide +kernel
theorem d_Ru_go_65 : decode b_Ru_go 65 = .ok (.invokevirtual 117, 3) := by decide +kernel
theorem d_Ru_go_68 : decode b_Ru_go 68 = .ok (.ifCond .ne 7, 3) := by decide +kernel
theorem d_Ru_go_71 : decode b_Ru_go 71 = .ok (.iload_n 2, 1) := by decide +kernel
theorem d_Ru_go_72 : decode b_Ru_go 72 = .ok (.goto 7, 3) := by decide +kernel
theorem d_Ru_go_75 : decode b_Ru_go 75 = .ok (.aload_n 0, 1) := by decide +kernel
theorem d_Ru_go_76 : decode b_Ru_go 76 = .ok (.getfield 65, 3) := by decide +kernel
theorem d_Ru_go_79 : decode b_Ru_go 79 = .ok (.putfield 65, 3) := by decide +kernel
theorem d_Ru_go_82 : decode b_Ru_go 82 = .ok (.goto 82, 3) := by decide +kernel
theorem d_Ru_go_85 : decode b_Ru_go 85 = .ok (.aload_n 0, 1) := by decide +kernel
theorem d_Ru_go_86 : decode b_Ru_go 86 = .ok (.getfield 25, 3) := by decide +kernel
theorem d_Ru_go_89 : decode b_Ru_go 89 = .ok (.aload_n 0, 1) := by decide +kernel
theorem d_Ru_go_90 : decode b_Ru_go 90 = .ok (.getfield 68, 3) := by decide +kernel
theorem d_Ru_go_93 : decode b_Ru_go 93 = .ok (.iload_n 2, 1) := by decide +kernel
theorem d_Ru_go_94 : decode b_Ru_go 94 = .ok (.iadd, 1) := by decide +kernel
theorem d_Ru_go_95 : decode b_Ru_go 95 = .ok (.iload_n 3, 1) := by decide +kernel
theorem d_Ru_go_96 : decode b_Ru_go 96 = .ok (.invokevirtual 120, 3) := by decide +kernel
theorem d_Ru_go_99 : decode b_Ru_go 99 = .ok (.goto 65, 3) := by decide +kernel
theorem d_Ru_go_102 : decode b_Ru_go 102 = .ok (.aload_n 0, 1) := by decide +kernel
theorem d_Ru_go_103 : decode b_Ru_go 103 = .ok (.aload_n 0, 1) := by decide +kernel
theorem d_Ru_go_104 : decode b_Ru_go 104 = .ok (.getfield 68, 3) := by decide +kernel
theorem d_Ru_go_107 : decode b_Ru_go 107 = .ok (.iload_n 2, 1) := by decide +kernel
theorem d_Ru_go_108 : decode b_Ru_go 108 = .ok (.iadd, 1) := by decide +kernel
theorem d_Ru_go_109 : decode b_Ru_go 109 = .ok (.iload_n 3, 1) := by decide +kernel
theorem d_Ru_go_110 : decode b_Ru_go 110 = .ok (.invokevirtual 145, 3) := by decide +kernel
theorem d_Ru_go_113 : decode b_Ru_go 113 = .ok (.goto 51, 3) := by decide +kernel
theorem d_Ru_go_116 : decode b_Ru_go 116 = .ok (.aload_n 0, 1) := by decide +kernel
theorem d_Ru_go_117 : decode b_Ru_go 117 = .ok (.iload_n 2, 1) := by decide +kernel
theorem d_Ru_go_118 : decode b_Ru_go 118 = .ok (.aload_n 0, 1) := by decide +kernel
theorem d_Ru_go_119 : decode b_Ru_go 119 = .ok (.getfield 68, 3) := by decide +kernel
theorem d_Ru_go_122 : decode b_Ru_go 122 = .ok (.iload_n 3, 1) := by decide +kernel
theorem d_Ru_go_123 : decode b_Ru_go 123 = .ok (.iadd, 1) := by decide +kernel
theorem d_Ru_go_124 : decode b_Ru_go 124 = .ok (.invokevirtual 148, 3) := by decide +kernel
theorem d_Ru_go_127 : decode b_Ru_go 127 = .ok (.goto 37, 3) := by decide +kernel
theorem d_Ru_go_130 : decode b_Ru_go 130 = .ok (.aload_n 0, 1) := by decide +kernel
theorem d_Ru_go_131 : decode b_Ru_go 131 = .ok (.iload_n 2, 1) := by decide +kernel
theorem d_Ru_go_132 : decode b_Ru_go 132 = .ok (.aload_n 0, 1) := by decide +kernel
theorem d_Ru_go_133 : decode b_Ru_go 133 = .ok (.getfield 21, 3) := by decide +kernel
theorem d_Ru_go_136 : decode b_Ru_go 136 = .ok (.iload_n 2, 1) := by decide +kernel
theorem d_Ru_go_137 : decode b_Ru_go 137 = .ok (.invokevirtual 129, 3) := by decide +kernel
theorem d_Ru_go_140 : decode b_Ru_go 140 = .ok (.invokevirtual 148, 3) := by decide +kernel
theorem d_Ru_go_143 : decode b_Ru_go 143 = .ok (.goto 21, 3) := by decide +kernel
theorem d_Ru_go_146 : decode b_Ru_go 146 = .ok (.aload_n 0, 1) := by decide +kernel
theorem d_Ru_go_147 : decode b_Ru_go 147 = .ok (.aload_n 0, 1) := by decide +kernel
theorem d_Ru_go_148 : decode b_Ru_go 148 = .ok (.getfield 21, 3) := by decide +kernel
theorem d_Ru_go_151 : decode b_Ru_go 151 = .ok (.aload_n 0, 1) := by decide +kernel
theorem d_Ru_go_152 : decode b_Ru_go 152 = .ok (.getfield 62, 3) := by decide +kernel
theorem d_Ru_go_155 : decode b_Ru_go 155 = .ok (.invokevirtual 72, 3) := by decide +kernel
theorem d_Ru_go_158 : decode b_Ru_go 158 = .ok (.putfield 65, 3) := by decide +kernel
theorem d_Ru_go_161 : decode b_Ru_go 161 = .ok (.goto 3, 3) := by decide +kernel
theorem d_Ru_go_164 : decode b_Ru_go 164 = .ok (.return_, 1) := by decide +kernel
def r_Ru_go (n : Nat) (ko : T_ko) (me : T_me) (ru : T_ru) (a0 : Int32) (a1 : Int32) (a2 : Int32) : Option (T_me × T_ru) := if a0 = (10 : Int32) then some (me, (ru_next_s ru a1)) else if a0 = (11 : Int32) then (r_Me_pop n me).bind (fun q3 => if q3.1 = 0 then some (q3.2, (ru_next_s ru a1)) else some (q3.2, (ru_next_s ru (ru_next ru)))) else if a0 = (12 : Int32) then (r_Me_change n me ((ru_base ru) + a1) a2).bind (fun q6 => some (q6, ru)) else if a0 = (13 : Int32) then (r_Ru_countDown n me ru ((ru_base ru) + a1) a2).bind (fun q8 => some (q8.1, q8.2)) else if a0 = (14 : Int32) then some (me, (ru_next_s ru a1)) else if a0 = (15 : Int32) then (r_Ru_descend n ru a1 ((ru_base ru) + a2)).bind (fun q11 => some (me, q11)) else if a0 = (16 : Int32) then (r_Co_placeOf n ko a1).bind (fun q13 => (r_Ru_descend n ru a1 q13).bind (fun q14 => some (me, q14))) else if a0 = (18 : Int32) then (r_Co_sizeOf n ko (ru_unit ru)).bind (fun q16 => some (me, (ru_next_s ru q16))) else some (me, ru)
def rm_Ru_go : Jvm.Room := { frames := 2, cells := 0, slots := 0, locals := 45 }
set_option maxHeartbeats 4000000 in
set_option maxRecDepth 100000 in
theorem c_Ru_go {l : Launch} {D : va_G} {cI cL : ClassId} {ad : Nat → Nat} {ma : T_ma} {ko : T_ko} {sh : T_sh} {lo : T_lo} {de : T_de} {wa : T_wa} {me : T_me} {ru : T_ru} {ws0 : va_W} {sz n : Nat} {a0 : Int32} {a1 : Int32} {a2 : Int32} {me9 : T_me} {ru9 : T_ru} (hw : ws0 = (wX cI cL ad ma ko sh lo de wa me ru)) (h : r_Ru_go n ko me ru a0 a1 a2 = some (me9, ru9)) : Met l y_Ru_go (Cond.code y_Ru_go b_Ru_go 4 none :: TB) rm_Ru_go (PreW D clX (tyX cI cL) ws0 [.ref (ad 22), .int a0, .int a1, .int a2] sz) (PstV D clX (tyX cI cL) ws0 (wX cI cL ad ma ko sh lo de wa (me9) (ru9)) sz) 0 0 (va_A ws0 sz) := by
  refine k_met (by decide) (Nat.le_of_ble_eq_true rfl) ?_
  intro p e s m below meth c ls hx hb hr hml hts hown hlk hnm hsz hP hK hD hA hz hl
  have hP : va_P D clX (wX cI cL ad ma ko sh lo de wa me ru) s.heap := by rw [← hw]; exact hP
  have hD : va_D (va_A ws0 sz) (wX cI cL ad ma ko sh lo de wa me ru) := by rw [← hw]; exact hD
  have hS : va_S (va_A ws0 sz) s.heap s.heap [] := va_S.rf
  have hl : lv_has ls 4 [(0, .ref (ad 22)), (1, .int a0), (2, .int a1), (3, .int a2)] := hl
  generalize hQ : MQ below (PstV D clX (tyX cI cL) ws0 (wX cI cL ad ma ko sh lo de wa (me9) (ru9)) sz) [.ref (ad 22), .int a0, .int a1, .int a2].toArray s 0 0 (va_A ws0 sz) = Q
  unfold r_Ru_go at h
  refine lv_iload_n hx hb d_Ru_go_0 rfl (lv_at hl 1 rfl) ?_
  by_cases c1 : a0 = (10 : Int32)
  · rw [if_pos c1] at h
    refine k_sw c1 ?_
    refine lv_tableIn (tgt := 52) hx hb d_Ru_go_1 (by decide) (by decide) rfl (by decide) ?_
    refine lv_aload_n hx hb d_Ru_go_52 rfl (lv_at hl 0 rfl) ?_
    refine lv_iload_n hx hb d_Ru_go_53 rfl (lv_at hl 2 rfl) ?_
    refine wr_Ru_next hx hb hts hown hK hP hD hS lk_190 d_Ru_go_54 (fun H locs hP hD hS => ?_)
    refine lv_goto (tgt := 164) hx hb d_Ru_go_57 (by decide) ?_
    cases h
    subst hQ
    exact k_vret hx hb hr hlk hP hK hD hS d_Ru_go_164
  · rw [if_neg c1] at h
    by_cases c2 : a0 = (11 : Int32)
    · rw [if_pos c2] at h
      refine k_sw c2 ?_
      refine lv_tableIn (tgt := 60) hx hb d_Ru_go_1 (by decide) (by decide) rfl (by decide) ?_
      refine lv_aload_n hx hb d_Ru_go_60 rfl (lv_at hl 0 rfl) ?_
      refine lv_aload_n hx hb d_Ru_go_61 rfl (lv_at hl 0 rfl) ?_
      refine rd_Ru_memory hx hb hts hown hK hP lk_183 d_Ru_go_62 ?_
      obtain ⟨q3, hq3, h⟩ := Option.bind_eq_some_iff.mp h
      refine k_I (k_runVN ⟨hx, hb, hml, hown, hts⟩ (c_Me_pop rfl hq3) ok_Me_pop is_Me_pop lk_553 rfl rfl ⟨by decide, by decide⟩ hP hK hD hS hA hz (ci := 6) (q0 := 19) rfl rfl ob_Me rfl hl.1 rfl (Nat.le_of_ble_eq_true rfl) d_Ru_go_65 ⟨Nat.zero_le _, Nat.zero_le _⟩) hD hS hA (fun H locs hP hD hS => ?_)
      refine lv_if_ne (tgt := 75) hx hb d_Ru_go_68 (by decide) (fun c4 => ?_) (fun c4 => ?_)
      · rw [if_neg c4] at h
        refine lv_aload_n hx hb d_Ru_go_75 rfl (lv_at hl 0 rfl) ?_
        refine rd_Ru_next hx hb hts hown hK hP lk_190 (v := (ru_next ru)) rfl d_Ru_go_76 ?_
        refine wr_Ru_next hx hb hts hown hK hP hD hS lk_190 d_Ru_go_79 (fun H locs hP hD hS => ?_)
        refine lv_goto (tgt := 164) hx hb d_Ru_go_82 (by decide) ?_
        cases h
        subst hQ
        exact k_vret hx hb hr hlk hP hK hD hS d_Ru_go_164
      · rw [if_pos c4] at h
        refine lv_iload_n hx hb d_Ru_go_71 rfl (lv_at hl 2 rfl) ?_
        refine lv_goto (tgt := 79) hx hb d_Ru_go_72 (by decide) ?_
        refine wr_Ru_next hx hb hts hown hK hP hD hS lk_190 d_Ru_go_79 (fun H locs hP hD hS => ?_)
        refine lv_goto (tgt := 164) hx hb d_Ru_go_82 (by decide) ?_
        cases h
        subst hQ
        exact k_vret hx hb hr hlk hP hK hD hS d_Ru_go_164
    · rw [if_neg c2] at h
      by_cases c5 : a0 = (12 : Int32)
      · rw [if_pos c5] at h
        refine k_sw c5 ?_
        refine lv_tableIn (tgt := 85) hx hb d_Ru_go_1 (by decide) (by decide) rfl (by decide) ?_
        refine lv_aload_n hx hb d_Ru_go_85 rfl (lv_at hl 0 rfl) ?_
        refine rd_Ru_memory hx hb hts hown hK hP lk_183 d_Ru_go_86 ?_
        refine lv_aload_n hx hb d_Ru_go_89 rfl (lv_at hl 0 rfl) ?_
        refine rd_Ru_base hx hb hts hown hK hP lk_191 (v := (ru_base ru)) rfl d_Ru_go_90 ?_
        refine lv_iload_n hx hb d_Ru_go_93 rfl (lv_at hl 2 rfl) ?_
        refine lv_iadd hx hb d_Ru_go_94 ?_
        refine lv_iload_n hx hb d_Ru_go_95 rfl (lv_at hl 3 rfl) ?_
        obtain ⟨q6, hq6, h⟩ := Option.bind_eq_some_iff.mp h
        refine k_V (k_runVN ⟨hx, hb, hml, hown, hts⟩ (c_Me_change rfl hq6) ok_Me_change is_Me_change lk_557 rfl rfl ⟨by decide, by decide⟩ hP hK hD hS hA hz (ci := 6) (q0 := 19) rfl rfl ob_Me rfl hl.1 rfl (Nat.le_of_ble_eq_true rfl) d_Ru_go_96 ⟨Nat.zero_le _, Nat.zero_le _⟩) hD hS hA (fun H locs hP hD hS => ?_)
        refine lv_goto (tgt := 164) hx hb d_Ru_go_99 (by decide) ?_
        cases h
        subst hQ
        exact k_vret hx hb hr hlk hP hK hD hS d_Ru_go_164
      · rw [if_neg c5] at h
        by_cases c7 : a0 = (13 : Int32)
        · rw [if_pos c7] at h
          refine k_sw c7 ?_
          refine lv_tableIn (tgt := 102) hx hb d_Ru_go_1 (by decide) (by decide) rfl (by decide) ?_
          refine lv_aload_n hx hb d_Ru_go_102 rfl (lv_at hl 0 rfl) ?_
          refine lv_aload_n hx hb d_Ru_go_103 rfl (lv_at hl 0 rfl) ?_
          refine rd_Ru_base hx hb hts hown hK hP lk_191 (v := (ru_base ru)) rfl d_Ru_go_104 ?_
          refine lv_iload_n hx hb d_Ru_go_107 rfl (lv_at hl 2 rfl) ?_
          refine lv_iadd hx hb d_Ru_go_108 ?_
          refine lv_iload_n hx hb d_Ru_go_109 rfl (lv_at hl 3 rfl) ?_
          obtain ⟨q8, hq8, h⟩ := Option.bind_eq_some_iff.mp h
          refine k_V (k_runV ⟨hx, hb, hml, hown, hts⟩ (c_Ru_countDown rfl hq8) ok_Ru_countDown is_Ru_countDown lk_643 rfl rfl ⟨by decide, by decide⟩ hP hK hD hS hA hz (ci := 7) (q0 := 22) rfl rfl ob_Ru rfl hl.1 rfl (Nat.le_of_ble_eq_true rfl) d_Ru_go_110 ⟨Nat.zero_le _, Nat.zero_le _⟩) hD hS hA (fun H locs hP hD hS => ?_)
          refine lv_goto (tgt := 164) hx hb d_Ru_go_113 (by decide) ?_
          cases h
          subst hQ
          exact k_vret hx hb hr hlk hP hK hD hS d_Ru_go_164
        · rw [if_neg c7] at h
          by_cases c9 : a0 = (14 : Int32)
          · rw [if_pos c9] at h
            refine k_sw c9 ?_
            refine lv_tableIn (tgt := 52) hx hb d_Ru_go_1 (by decide) (by decide) rfl (by decide) ?_
            refine lv_aload_n hx hb d_Ru_go_52 rfl (lv_at hl 0 rfl) ?_
            refine lv_iload_n hx hb d_Ru_go_53 rfl (lv_at hl 2 rfl) ?_
            refine wr_Ru_next hx hb hts hown hK hP hD hS lk_190 d_Ru_go_54 (fun H locs hP hD hS => ?_)
            refine lv_goto (tgt := 164) hx hb d_Ru_go_57 (by decide) ?_
            cases h
            subst hQ
            exact k_vret hx hb hr hlk hP hK hD hS d_Ru_go_164
          · rw [if_neg c9] at h
            by_cases c10 : a0 = (15 : Int32)
            · rw [if_pos c10] at h
              refine k_sw c10 ?_
              refine lv_tableIn (tgt := 116) hx hb d_Ru_go_1 (by decide) (by decide) rfl (by decide) ?_
              refine lv_aload_n hx hb d_Ru_go_116 rfl (lv_at hl 0 rfl) ?_
              refine lv_iload_n hx hb d_Ru_go_117 rfl (lv_at hl 2 rfl) ?_
              refine lv_aload_n hx hb d_Ru_go_118 rfl (lv_at hl 0 rfl) ?_
              refine rd_Ru_base hx hb hts hown hK hP lk_191 (v := (ru_base ru)) rfl d_Ru_go_119 ?_
              refine lv_iload_n hx hb d_Ru_go_122 rfl (lv_at hl 3 rfl) ?_
              refine lv_iadd hx hb d_Ru_go_123 ?_
              obtain ⟨q11, hq11, h⟩ := Option.bind_eq_some_iff.mp h
              refine k_V (k_runV ⟨hx, hb, hml, hown, hts⟩ (c_Ru_descend rfl hq11) ok_Ru_descend is_Ru_descend lk_647 rfl rfl ⟨by decide, by decide⟩ hP hK hD hS hA hz (ci := 7) (q0 := 22) rfl rfl ob_Ru rfl hl.1 rfl (Nat.le_of_ble_eq_true rfl) d_Ru_go_124 ⟨Nat.zero_le _, Nat.zero_le _⟩) hD hS hA (fun H locs hP hD hS => ?_)
              refine lv_goto (tgt := 164) hx hb d_Ru_go_127 (by decide) ?_
              cases h
              subst hQ
              exact k_vret hx hb hr hlk hP hK hD hS d_Ru_go_164
            · rw [if_neg c10] at h
              by_cases c12 : a0 = (16 : Int32)
              · rw [if_pos c12] at h
                refine k_sw c12 ?_
                refine lv_tableIn (tgt := 130) hx hb d_Ru_go_1 (by decide) (by decide) rfl (by decide) ?_
                refine lv_aload_n hx hb d_Ru_go_130 rfl (lv_at hl 0 rfl) ?_
                refine lv_iload_n hx hb d_Ru_go_131 rfl (lv_at hl 2 rfl) ?_
                refine lv_aload_n hx hb d_Ru_go_132 rfl (lv_at hl 0 rfl) ?_
                refine rd_Ru_code hx hb hts hown hK hP lk_182 d_Ru_go_133 ?_
                refine lv_iload_n hx hb d_Ru_go_136 rfl (lv_at hl 2 rfl) ?_
                obtain ⟨q13, hq13, h⟩ := Option.bind_eq_some_iff.mp h
                refine k_I (k_runVN ⟨hx, hb, hml, hown, hts⟩ (c_Co_placeOf rfl hq13) ok_Co_placeOf is_Co_placeOf lk_569 rfl rfl ⟨by decide, by decide⟩ hP hK hD hS hA hz (ci := 1) (q0 := 1) rfl rfl ob_Co rfl hl.1 rfl (Nat.le_of_ble_eq_true rfl) d_Ru_go_137 ⟨Nat.zero_le _, Nat.zero_le _⟩) hD hS hA (fun H locs hP hD hS => ?_)
                obtain ⟨q14, hq14, h⟩ := Option.bind_eq_some_iff.mp h
                refine k_V (k_runV ⟨hx, hb, hml, hown, hts⟩ (c_Ru_descend rfl hq14) ok_Ru_descend is_Ru_descend lk_647 rfl rfl ⟨by decide, by decide⟩ hP hK hD hS hA hz (ci := 7) (q0 := 22) rfl rfl ob_Ru rfl hl.1 rfl (Nat.le_of_ble_eq_true rfl) d_Ru_go_140 ⟨Nat.zero_le _, Nat.zero_le _⟩) hD hS hA (fun H locs hP hD hS => ?_)
                refine lv_goto (tgt := 164) hx hb d_Ru_go_143 (by decide) ?_
                cases h
                subst hQ
                exact k_vret hx hb hr hlk hP hK hD hS d_Ru_go_164
              · rw [if_neg c12] at h
                by_cases c15 : a0 = (18 : Int32)
                · rw [if_pos c15] at h
                  refine k_sw c15 ?_
                  refine lv_tableIn (tgt := 146) hx hb d_Ru_go_1 (by decide) (by decide) rfl (by decide) ?_
                  refine lv_aload_n hx hb d_Ru_go_146 rfl (lv_at hl 0 rfl) ?_
                  refine lv_aload_n hx hb d_Ru_go_147 rfl (lv_at hl 0 rfl) ?_
                  refine rd_Ru_code hx hb hts hown hK hP lk_182 d_Ru_go_148 ?_
                  refine lv_aload_n hx hb d_Ru_go_151 rfl (lv_at hl 0 rfl) ?_
                  refine rd_Ru_unit hx hb hts hown hK hP lk_189 (v := (ru_unit ru)) rfl d_Ru_go_152 ?_
                  obtain ⟨q16, hq16, h⟩ := Option.bind_eq_some_iff.mp h
                  refine k_I (k_runVN ⟨hx, hb, hml, hown, hts⟩ (c_Co_sizeOf rfl hq16) ok_Co_sizeOf is_Co_sizeOf lk_531 rfl rfl ⟨by decide, by decide⟩ hP hK hD hS hA hz (ci := 1) (q0 := 1) rfl rfl ob_Co rfl hl.1 rfl (Nat.le_of_ble_eq_true rfl) d_Ru_go_155 ⟨Nat.zero_le _, Nat.zero_le _⟩) hD hS hA (fun H locs hP hD hS => ?_)
                  refine wr_Ru_next hx hb hts hown hK hP hD hS lk_190 d_Ru_go_158 (fun H locs hP hD hS => ?_)
                  refine lv_goto (tgt := 164) hx hb d_Ru_go_161 (by decide) ?_
                  cases h
                  subst hQ
                  exact k_vret hx hb hr hlk hP hK hD hS d_Ru_go_164
                · rw [if_neg c15] at h
                  by_cases c17 : a0 = (17 : Int32)
                  · refine k_sw c17 ?_
                    refine lv_tableIn (tgt := 164) hx hb d_Ru_go_1 (by decide) (by decide) rfl (by decide) ?_
                    cases h
                    subst hQ
                    exact k_vret hx hb hr hlk hP hK hD hS d_Ru_go_164
                  ·
                    refine lv_tableOut (tgt := 164) hx hb d_Ru_go_1 (by have ec1 := lv_neT c1 (a := 10) (by decide); have ec2 := lv_neT c2 (a := 11) (by decide); have ec5 := lv_neT c5 (a := 12) (by decide); have ec7 := lv_neT c7 (a := 13) (by decide); have ec9 := lv_neT c9 (a := 14) (by decide); have ec10 := lv_neT c10 (a := 15) (by decide); have ec12 := lv_neT c12 (a := 16) (by decide); have ec15 := lv_neT c15 (a := 18) (by decide); have ec17 := lv_neT c17 (a := 17) (by decide); omega) (by decide) ?_
                    cases h
                    subst hQ
                    exact k_vret hx hb hr hlk hP hK hD hS d_Ru_go_164
theorem d_Ru_reckon_0 : decode b_Ru_reckon 0 = .ok (.aload_n 0, 1) := by decide +kernel
theorem d_Ru_reckon_1 : decode b_Ru_reckon 1 = .ok (.getfield 25, 3) := by decide +kernel
theorem d_Ru_reckon_4 : decode b_Ru_reckon 4 = .ok (.invokevirtual 117, 3) := by decide +kernel
theorem d_Ru_reckon_7 : decode b_Ru_reckon 7 = .ok (.istore_n 3, 1) := by decide +kernel
theorem d_Ru_reckon_8 : decode b_Ru_reckon 8 = .ok (.iload_n 1, 1) := by decide +kernel
theorem d_Ru_reckon_9 : decode b_Ru_reckon 9 = .ok (.bipush 8, 2) := by decide +kernel
theorem d_Ru_reckon_11 : decode b_Ru_reckon 11 = .ok (.if_icmp .ne 16, 3) := by decide +kernel
theorem d_Ru_reckon_14 : decode b_Ru_reckon 14 = .ok (.aload_n 0, 1) := by decide +kernel
theorem d_Ru_reckon_15 : decode b_Ru_reckon 15 = .ok (.getfield 25, 3) := by decide +kernel
theorem d_Ru_reckon_18 : decode b_Ru_reckon 18 = .ok (.iload_n 2, 1) := by decide +kernel
theorem d_Ru_reckon_19 : decode b_Ru_reckon 19 = .ok (.iload_n 3, 1) := by decide +kernel
theorem d_Ru_reckon_20 : decode b_Ru_reckon 20 = .ok (.invokestatic 132, 3) := by decide +kernel
theorem d_Ru_reckon_23 : decode b_Ru_reckon 23 = .ok (.invokevirtual 110, 3) := by decide +kernel
theorem d_Ru_reckon_26 : decode b_Ru_reckon 26 = .ok (.return_, 1) := by decide +kernel
theorem d_Ru_reckon_27 : decode b_Ru_reckon 27 = .ok (.aload_n 0, 1) := by decide +kernel
theorem d_Ru_reckon_28 : decode b_Ru_reckon 28 = .ok (.getfield 25, 3) := by decide +kernel
theorem d_Ru_reckon_31 : decode b_Ru_reckon 31 = .ok (.invokevirtual 117, 3) := by decide +kernel
theorem d_Ru_reckon_34 : decode b_Ru_reckon 34 = .ok (.istore 4, 2) := by decide +kernel
theorem d_Ru_reckon_36 : decode b_Ru_reckon 36 = .ok (.iload_n 1, 1) := by decide +kernel
theorem d_Ru_reckon_37 : decode b_Ru_reckon 37 = .ok (.bipush 9, 2) := by decide +kernel
theorem d_Ru_reckon_39 : decode b_Ru_reckon 39 = .ok (.if_icmp .ne 29, 3) := by decide +kernel
theorem d_Ru_reckon_42 : decode b_Ru_reckon 42 = .ok (.aload_n 0, 1) := by decide +kernel
theorem d_Ru_reckon_43 : decode b_Ru_reckon 43 = .ok (.getfield 25, 3) := by decide +kernel
theorem d_Ru_reckon_46 : decode b_Ru_reckon 46 = .ok (.aload_n 0, 1) := by decide +kernel
theorem d_Ru_reckon_47 : decode b_Ru_reckon 47 = .ok (.getfield 25, 3) := by decide +kernel
theorem d_Ru_reckon_50 : decode b_Ru_reckon 50 = .ok (.invokevirtual 117, 3) := by decide +kernel
theorem d_Ru_reckon_53 : decode b_Ru_reckon 53 = .ok (.ifCond .eq 7, 3) := by decide +kernel
theorem d_Ru_reckon_56 : decode b_Ru_reckon 56 = .ok (.iload_n 3, 1) := by decide +kernel
theorem d_Ru_reckon_57 : decode b_Ru_reckon 57 = .ok (.goto 5, 3) := by decide +kernel
theorem d_Ru_reckon_60 : decode b_Ru_reckon 60 = .ok (.iload 4, 2) := by decide +kernel
theorem d_Ru_reckon_62 : decode b_Ru_reckon 62 = .ok (.invokevirtual 110, 3) := by decide +kernel
theorem d_Ru_reckon_65 : decode b_Ru_reckon 65 = .ok (.goto 37, 3) := by decide +kernel
theorem d_Ru_reckon_68 : decode b_Ru_reckon 68 = .ok (.iload_n 3, 1) := by decide +kernel
theorem d_Ru_reckon_69 : decode b_Ru_reckon 69 = .ok (.ifCond .ne 19, 3) := by decide +kernel
theorem d_Ru_reckon_72 : decode b_Ru_reckon 72 = .ok (.iload_n 2, 1) := by decide +kernel
theorem d_Ru_reckon_73 : decode b_Ru_reckon 73 = .ok (.invokestatic 137, 3) := by decide +kernel
theorem d_Ru_reckon_76 : decode b_Ru_reckon 76 = .ok (.ifCond .eq 12, 3) := by decide +kernel
theorem d_Ru_reckon_79 : decode b_Ru_reckon 79 = .ok (.aload_n 0, 1) := by decide +kernel
theorem d_Ru_reckon_80 : decode b_Ru_reckon 80 = .ok (.bipush (-2), 2) := by decide +kernel
theorem d_Ru_reckon_82 : decode b_Ru_reckon 82 = .ok (.putfield 53, 3) := by decide +kernel
theorem d_Ru_reckon_85 : decode b_Ru_reckon 85 = .ok (.goto 17, 3) := by decide +kernel
theorem d_Ru_reckon_88 : decode b_Ru_reckon 88 = .ok (.aload_n 0, 1) := by decide +kernel
theorem d_Ru_reckon_89 : decode b_Ru_reckon 89 = .ok (.getfield 25, 3) := by decide +kernel
theorem d_Ru_reckon_92 : decode b_Ru_reckon 92 = .ok (.iload_n 2, 1) := by decide +kernel
theorem d_Ru_reckon_93 : decode b_Ru_reckon 93 = .ok (.iload 4, 2) := by decide +kernel
theorem d_Ru_reckon_95 : decode b_Ru_reckon 95 = .ok (.iload_n 3, 1) := by decide +kernel
theorem d_Ru_reckon_96 : decode b_Ru_reckon 96 = .ok (.invokestatic 141, 3) := by decide +kernel
theorem d_Ru_reckon_99 : decode b_Ru_reckon 99 = .ok (.invokevirtual 110, 3) := by decide +kernel
theorem d_Ru_reckon_102 : decode b_Ru_reckon 102 = .ok (.return_, 1) := by decide +kernel
def r_Ru_reckon_j88 (n : Nat)   (me : T_me) (ru : T_ru) (x2 : Int32) (x3 : Int32) (x4 : Int32) : Option (T_me × T_ru) := (r_Re_ofTwo n x2 x4 x3).bind (fun q1 => (r_Me_push n me q1).bind (fun q2 => some (q2, ru)))
def r_Ru_reckon (n : Nat) (me : T_me) (ru : T_ru) (a0 : Int32) (a1 : Int32) : Option (T_me × T_ru) := (r_Me_pop n me).bind (fun q3 => if a0 = (8 : Int32) then (r_Re_ofOne n a1 q3.1).bind (fun q14 => (r_Me_push n q3.2 q14).bind (fun q15 => some (q15, ru))) else (r_Me_pop n q3.2).bind (fun q5 => if a0 = (9 : Int32) then (r_Me_pop n q5.2).bind (fun q10 => if q10.1 = 0 then (r_Me_push n q10.2 q5.1).bind (fun q12 => some (q12, ru)) else (r_Me_push n q10.2 q3.1).bind (fun q13 => some (q13, ru))) else if q3.1 = 0 then (r_Re_divides n a1).bind (fun q8 => if q8 = 0 then r_Ru_reckon_j88 n q5.2 ru a1 q3.1 q5.1 else some (q5.2, (ru_fault_s ru (-2 : Int32)))) else r_Ru_reckon_j88 n q5.2 ru a1 q3.1 q5.1))
def rm_Ru_reckon : Jvm.Room := { frames := 3, cells := 0, slots := 0, locals := 70 }
set_option maxHeartbeats 4000000 in
set_option maxRecDepth 100000 in
theorem c_Ru_reckon {l : Launch} {D : va_G} {cI cL : ClassId} {ad : Nat → Nat} {ma : T_ma} {ko : T_ko} {sh : T_sh} {lo : T_lo} {de : T_de} {wa : T_wa} {me : T_me} {ru : T_ru} {ws0 : va_W} {sz n : Nat} {a0 : Int32} {a1 : Int32} {me9 : T_me} {ru9 : T_ru} (hw : ws0 = (wX cI cL ad ma ko sh lo de wa me ru)) (h : r_Ru_reckon n me ru a0 a1 = some (me9, ru9)) : Met l y_Ru_reckon (Cond.code y_Ru_reckon b_Ru_reckon 5 none :: TB) rm_Ru_reckon (PreW D clX (tyX cI cL) ws0 [.ref (ad 22), .int a0, .int a1] sz) (PstV D clX (tyX cI cL) ws0 (wX cI cL ad ma ko sh lo de wa (me9) (ru9)) sz) 0 0 (va_A ws0 sz) := by
  refine k_met (by decide) (Nat.le_of_ble_eq_true rfl) ?_
  intro p e s m below meth c ls hx hb hr hml hts hown hlk hnm hsz hP hK hD hA hz hl
  have hP : va_P D clX (wX cI cL ad ma ko sh lo de wa me ru) s.heap := by rw [← hw]; exact hP
  have hD : va_D (va_A ws0 sz) (wX cI cL ad ma ko sh lo de wa me ru) := by rw [← hw]; exact hD
  have hS : va_S (va_A ws0 sz) s.heap s.heap [] := va_S.rf
  have hl : lv_has ls 5 [(0, .ref (ad 22)), (1, .int a0), (2, .int a1)] := hl
  generalize hQ : MQ below (PstV D clX (tyX cI cL) ws0 (wX cI cL ad ma ko sh lo de wa (me9) (ru9)) sz) [.ref (ad 22), .int a0, .int a1].toArray s 0 0 (va_A ws0 sz) = Q
  have J88 : ∀ (me : T_me) (ru : T_ru) (x2 : Int32) (x3 : Int32) (x4 : Int32) (H : Heap) (locs : List Loc) (ls : Array Slot), r_Ru_reckon_j88 n me ru x2 x3 x4 = some (me9, ru9) → va_P D clX (wX cI cL ad ma ko sh lo de wa me ru) H → va_D (va_A ws0 sz) (wX cI cL ad ma ko sh lo de wa me ru) → va_S (va_A ws0 sz) s.heap H locs → lv_has ls 5 [(0, .ref (ad 22)), (2, .int x2), (3, .int x3), (4, .int x4)] → W p l e rm_Ru_reckon s m [.ref (ad 22), .int a0, .int a1].toArray below meth c H locs 0 0 Q (F0 m 88 ls []) := by
    intro me ru x2 x3 x4 H locs ls h hP hD hS hl
    unfold r_Ru_reckon_j88 at h
    refine lv_aload_n hx hb d_Ru_reckon_88 rfl (lv_at hl 0 rfl) ?_
    refine rd_Ru_memory hx hb hts hown hK hP lk_183 d_Ru_reckon_89 ?_
    refine lv_iload_n hx hb d_Ru_reckon_92 rfl (lv_at hl 1 rfl) ?_
    refine lv_iload hx hb d_Ru_reckon_93 (lv_at hl 3 rfl) ?_
    refine lv_iload_n hx hb d_Ru_reckon_95 rfl (lv_at hl 2 rfl) ?_
    obtain ⟨q1, hq1, h⟩ := Option.bind_eq_some_iff.mp h
    refine k_I (k_runSN ⟨hx, hb, hml, hown, hts⟩ (c_Re_ofTwo hq1) ok_Re_ofTwo is_Re_ofTwo lk_586 rfl rfl ⟨by decide, by decide⟩ hP hK hD hS hA hz rfl hl.1 rfl (Nat.le_of_ble_eq_true rfl) d_Ru_reckon_96 ⟨Nat.zero_le _, Nat.zero_le _⟩) hD hS hA (fun H locs hP hD hS => ?_)
    obtain ⟨q2, hq2, h⟩ := Option.bind_eq_some_iff.mp h
    refine k_V (k_runVN ⟨hx, hb, hml, hown, hts⟩ (c_Me_push rfl hq2) ok_Me_push is_Me_push lk_544 rfl rfl ⟨by decide, by decide⟩ hP hK hD hS hA hz (ci := 6) (q0 := 19) rfl rfl ob_Me rfl hl.1 rfl (Nat.le_of_ble_eq_true rfl) d_Ru_reckon_99 ⟨Nat.zero_le _, Nat.zero_le _⟩) hD hS hA (fun H locs hP hD hS => ?_)
    cases h
    subst hQ
    exact k_vret hx hb hr hlk hP hK hD hS d_Ru_reckon_102
  unfold r_Ru_reckon at h
  refine lv_aload_n hx hb d_Ru_reckon_0 rfl (lv_at hl 0 rfl) ?_
  refine rd_Ru_memory hx hb hts hown hK hP lk_183 d_Ru_reckon_1 ?_
  obtain ⟨q3, hq3, h⟩ := Option.bind_eq_some_iff.mp h
  refine k_I (k_runVN ⟨hx, hb, hml, hown, hts⟩ (c_Me_pop rfl hq3) ok_Me_pop is_Me_pop lk_553 rfl rfl ⟨by decide, by decide⟩ hP hK hD hS hA hz (ci := 6) (q0 := 19) rfl rfl ob_Me rfl hl.1 rfl (Nat.le_of_ble_eq_true rfl) d_Ru_reckon_4 ⟨Nat.zero_le _, Nat.zero_le _⟩) hD hS hA (fun H locs hP hD hS => ?_)
  refine lv_istore_n (lv' := [(3, .int q3.1), (0, .ref (ad 22)), (1, .int a0), (2, .int a1)]) hx hb d_Ru_reckon_7 rfl hl (by decide) rfl (fun ls hl => ?_)
  refine lv_iload_n hx hb d_Ru_reckon_8 rfl (lv_at hl 2 rfl) ?_
  refine lv_bipush (v := 8) hx hb d_Ru_reckon_9 (by decide) ?_
  refine lv_icmp_ne (tgt := 27) hx hb d_Ru_reckon_11 (by decide) (fun c4 => ?_) (fun c4 => ?_)
  · rw [if_neg c4] at h
    refine lv_aload_n hx hb d_Ru_reckon_27 rfl (lv_at hl 1 rfl) ?_
    refine rd_Ru_memory hx hb hts hown hK hP lk_183 d_Ru_reckon_28 ?_
    obtain ⟨q5, hq5, h⟩ := Option.bind_eq_some_iff.mp h
    refine k_I (k_runVN ⟨hx, hb, hml, hown, hts⟩ (c_Me_pop rfl hq5) ok_Me_pop is_Me_pop lk_553 rfl rfl ⟨by decide, by decide⟩ hP hK hD hS hA hz (ci := 6) (q0 := 19) rfl rfl ob_Me rfl hl.1 rfl (Nat.le_of_ble_eq_true rfl) d_Ru_reckon_31 ⟨Nat.zero_le _, Nat.zero_le _⟩) hD hS hA (fun H locs hP hD hS => ?_)
    refine lv_istore (lv' := [(4, .int q5.1), (3, .int q3.1), (0, .ref (ad 22)), (1, .int a0), (2, .int a1)]) hx hb d_Ru_reckon_34 hl (by decide) rfl (fun ls hl => ?_)
    refine lv_iload_n hx hb d_Ru_reckon_36 rfl (lv_at hl 3 rfl) ?_
    refine lv_bipush (v := 9) hx hb d_Ru_reckon_37 (by decide) ?_
    refine lv_icmp_ne (tgt := 68) hx hb d_Ru_reckon_39 (by decide) (fun c6 => ?_) (fun c6 => ?_)
    · rw [if_neg c6] at h
      refine lv_iload_n hx hb d_Ru_reckon_68 rfl (lv_at hl 1 rfl) ?_
      refine lv_if_ne (tgt := 88) hx hb d_Ru_reckon_69 (by decide) (fun c7 => ?_) (fun c7 => ?_)
      · rw [if_neg c7] at h
        exact J88 _ _ _ _ _ _ _ _ h hP hD hS (lv_sub hl [2, 4, 1, 0] rfl)
      · rw [if_pos c7] at h
        refine lv_iload_n hx hb d_Ru_reckon_72 rfl (lv_at hl 4 rfl) ?_
        obtain ⟨q8, hq8, h⟩ := Option.bind_eq_some_iff.mp h
        refine k_I (k_runSN ⟨hx, hb, hml, hown, hts⟩ (c_Re_divides hq8) ok_Re_divides is_Re_divides lk_583 rfl rfl ⟨by decide, by decide⟩ hP hK hD hS hA hz rfl hl.1 rfl (Nat.le_of_ble_eq_true rfl) d_Ru_reckon_73 ⟨Nat.zero_le _, Nat.zero_le _⟩) hD hS hA (fun H locs hP hD hS => ?_)
        refine lv_if_eq (tgt := 88) hx hb d_Ru_reckon_76 (by decide) (fun c9 => ?_) (fun c9 => ?_)
        · rw [if_pos c9] at h
          exact J88 _ _ _ _ _ _ _ _ h hP hD hS (lv_sub hl [2, 4, 1, 0] rfl)
        · rw [if_neg c9] at h
          refine lv_aload_n hx hb d_Ru_reckon_79 rfl (lv_at hl 2 rfl) ?_
          refine lv_bipush (v := -2) hx hb d_Ru_reckon_80 (by decide) ?_
          refine wr_Ru_fault hx hb hts hown hK hP hD hS lk_194 d_Ru_reckon_82 (fun H locs hP hD hS => ?_)
          refine lv_goto (tgt := 102) hx hb d_Ru_reckon_85 (by decide) ?_
          cases h
          subst hQ
          exact k_vret hx hb hr hlk hP hK hD hS d_Ru_reckon_102
    · rw [if_pos c6] at h
      refine lv_aload_n hx hb d_Ru_reckon_42 rfl (lv_at hl 2 rfl) ?_
      refine rd_Ru_memory hx hb hts hown hK hP lk_183 d_Ru_reckon_43 ?_
      refine lv_aload_n hx hb d_Ru_reckon_46 rfl (lv_at hl 2 rfl) ?_
      refine rd_Ru_memory hx hb hts hown hK hP lk_183 d_Ru_reckon_47 ?_
      obtain ⟨q10, hq10, h⟩ := Option.bind_eq_some_iff.mp h
      refine k_I (k_runVN ⟨hx, hb, hml, hown, hts⟩ (c_Me_pop rfl hq10) ok_Me_pop is_Me_pop lk_553 rfl rfl ⟨by decide, by decide⟩ hP hK hD hS hA hz (ci := 6) (q0 := 19) rfl rfl ob_Me rfl hl.1 rfl (Nat.le_of_ble_eq_true rfl) d_Ru_reckon_50 ⟨Nat.zero_le _, Nat.zero_le _⟩) hD hS hA (fun H locs hP hD hS => ?_)
      refine lv_if_eq (tgt := 60) hx hb d_Ru_reckon_53 (by decide) (fun c11 => ?_) (fun c11 => ?_)
      · rw [if_pos c11] at h
        refine lv_iload hx hb d_Ru_reckon_60 (lv_at hl 0 rfl) ?_
        obtain ⟨q12, hq12, h⟩ := Option.bind_eq_some_iff.mp h
        refine k_V (k_runVN ⟨hx, hb, hml, hown, hts⟩ (c_Me_push rfl hq12) ok_Me_push is_Me_push lk_544 rfl rfl ⟨by decide, by decide⟩ hP hK hD hS hA hz (ci := 6) (q0 := 19) rfl rfl ob_Me rfl hl.1 rfl (Nat.le_of_ble_eq_true rfl) d_Ru_reckon_62 ⟨Nat.zero_le _, Nat.zero_le _⟩) hD hS hA (fun H locs hP hD hS => ?_)
        refine lv_goto (tgt := 102) hx hb d_Ru_reckon_65 (by decide) ?_
        cases h
        subst hQ
        exact k_vret hx hb hr hlk hP hK hD hS d_Ru_reckon_102
      · rw [if_neg c11] at h
        refine lv_iload_n hx hb d_Ru_reckon_56 rfl (lv_at hl 1 rfl) ?_
        refine lv_goto (tgt := 62) hx hb d_Ru_reckon_57 (by decide) ?_
        obtain ⟨q13, hq13, h⟩ := Option.bind_eq_some_iff.mp h
        refine k_V (k_runVN ⟨hx, hb, hml, hown, hts⟩ (c_Me_push rfl hq13) ok_Me_push is_Me_push lk_544 rfl rfl ⟨by decide, by decide⟩ hP hK hD hS hA hz (ci := 6) (q0 := 19) rfl rfl ob_Me rfl hl.1 rfl (Nat.le_of_ble_eq_true rfl) d_Ru_reckon_62 ⟨Nat.zero_le _, Nat.zero_le _⟩) hD hS hA (fun H locs hP hD hS => ?_)
        refine lv_goto (tgt := 102) hx hb d_Ru_reckon_65 (by decide) ?_
        cases h
        subst hQ
        exact k_vret hx hb hr hlk hP hK hD hS d_Ru_reckon_102
  · rw [if_pos c4] at h
    refine lv_aload_n hx hb d_Ru_reckon_14 rfl (lv_at hl 1 rfl) ?_
    refine rd_Ru_memory hx hb hts hown hK hP lk_183 d_Ru_reckon_15 ?_
    refine lv_iload_n hx hb d_Ru_reckon_18 rfl (lv_at hl 3 rfl) ?_
    refine lv_iload_n hx hb d_Ru_reckon_19 rfl (lv_at hl 0 rfl) ?_
    obtain ⟨q14, hq14, h⟩ := Option.bind_eq_some_iff.mp h
    refine k_I (k_runSN ⟨hx, hb, hml, hown, hts⟩ (c_Re_ofOne hq14) ok_Re_ofOne is_Re_ofOne lk_574 rfl rfl ⟨by decide, by decide⟩ hP hK hD hS hA hz rfl hl.1 rfl (Nat.le_of_ble_eq_true rfl) d_Ru_reckon_20 ⟨Nat.zero_le _, Nat.zero_le _⟩) hD hS hA (fun H locs hP hD hS => ?_)
    obtain ⟨q15, hq15, h⟩ := Option.bind_eq_some_iff.mp h
    refine k_V (k_runVN ⟨hx, hb, hml, hown, hts⟩ (c_Me_push rfl hq15) ok_Me_push is_Me_push lk_544 rfl rfl ⟨by decide, by decide⟩ hP hK hD hS hA hz (ci := 6) (q0 := 19) rfl rfl ob_Me rfl hl.1 rfl (Nat.le_of_ble_eq_true rfl) d_Ru_reckon_23 ⟨Nat.zero_le _, Nat.zero_le _⟩) hD hS hA (fun H locs hP hD hS => ?_)
    cases h
    subst hQ
    exact k_vret hx hb hr hlk hP hK hD hS d_Ru_reckon_26
theorem d_Ru_put_0 : decode b_Ru_put 0 = .ok (.aload_n 0, 1) := by decide +kernel
theorem d_Ru_put_1 : decode b_Ru_put 1 = .ok (.getfield 25, 3) := by decide +kernel
theorem d_Ru_put_4 : decode b_Ru_put 4 = .ok (.invokevirtual 117, 3) := by decide +kernel
theorem d_Ru_put_7 : decode b_Ru_put 7 = .ok (.istore 4, 2) := by decide +kernel
theorem d_Ru_put_9 : decode b_Ru_put 9 = .ok (.aload_n 0, 1) := by decide +kernel
theorem d_Ru_put_10 : decode b_Ru_put 10 = .ok (.getfield 25, 3) := by decide +kernel
theorem d_Ru_put_13 : decode b_Ru_put 13 = .ok (.invokevirtual 117, 3) := by decide +kernel
theorem d_Ru_put_16 : decode b_Ru_put 16 = .ok (.i2l, 1) := by decide +kernel
theorem d_Ru_put_17 : decode b_Ru_put 17 = .ok (.iload_n 2, 1) := by decide +kernel
theorem d_Ru_put_18 : decode b_Ru_put 18 = .ok (.i2l, 1) := by decide +kernel
theorem d_Ru_put_19 : decode b_Ru_put 19 = .ok (.lsub, 1) := by decide +kernel
theorem d_Ru_put_20 : decode b_Ru_put 20 = .ok (.lstore 5, 2) := by decide +kernel
theorem d_Ru_put_22 : decode b_Ru_put 22 = .ok (.lload 5, 2) := by decide +kernel
theorem d_Ru_put_24 : decode b_Ru_put 24 = .ok (.lconst 0, 1) := by decide +kernel
theorem d_Ru_put_25 : decode b_Ru_put 25 = .ok (.lcmp, 1) := by decide +kernel
theorem d_Ru_put_26 : decode b_Ru_put 26 = .ok (.ifCond .lt 11, 3) := by decide +kernel
theorem d_Ru_put_29 : decode b_Ru_put 29 = .ok (.lload 5, 2) := by decide +kernel
theorem d_Ru_put_31 : decode b_Ru_put 31 = .ok (.iload_n 3, 1) := by decide +kernel
theorem d_Ru_put_32 : decode b_Ru_put 32 = .ok (.i2l, 1) := by decide +kernel
theorem d_Ru_put_33 : decode b_Ru_put 33 = .ok (.lcmp, 1) := by decide +kernel
theorem d_Ru_put_34 : decode b_Ru_put 34 = .ok (.ifCond .lt 10, 3) := by decide +kernel
theorem d_Ru_put_37 : decode b_Ru_put 37 = .ok (.aload_n 0, 1) := by decide +kernel
theorem d_Ru_put_38 : decode b_Ru_put 38 = .ok (.bipush (-3), 2) := by decide +kernel
theorem d_Ru_put_40 : decode b_Ru_put 40 = .ok (.putfield 53, 3) := by decide +kernel
theorem d_Ru_put_43 : decode b_Ru_put 43 = .ok (.return_, 1) := by decide +kernel
theorem d_Ru_put_44 : decode b_Ru_put 44 = .ok (.aload_n 0, 1) := by decide +kernel
theorem d_Ru_put_45 : decode b_Ru_put 45 = .ok (.getfield 25, 3) := by decide +kernel
theorem d_Ru_put_48 : decode b_Ru_put 48 = .ok (.aload_n 0, 1) := by decide +kernel
theorem d_Ru_put_49 : decode b_Ru_put 49 = .ok (.getfield 68, 3) := by decide +kernel
theorem d_Ru_put_52 : decode b_Ru_put 52 = .ok (.iload_n 1, 1) := by decide +kernel
theorem d_Ru_put_53 : decode b_Ru_put 53 = .ok (.iadd, 1) := by decide +kernel
theorem d_Ru_put_54 : decode b_Ru_put 54 = .ok (.lload 5, 2) := by decide +kernel
theorem d_Ru_put_56 : decode b_Ru_put 56 = .ok (.l2i, 1) := by decide +kernel
theorem d_Ru_put_57 : decode b_Ru_put 57 = .ok (.iadd, 1) := by decide +kernel
theorem d_Ru_put_58 : decode b_Ru_put 58 = .ok (.iload 4, 2) := by decide +kernel
theorem d_Ru_put_60 : decode b_Ru_put 60 = .ok (.invokevirtual 120, 3) := by decide +kernel
theorem d_Ru_put_63 : decode b_Ru_put 63 = .ok (.return_, 1) := by decide +kernel
def r_Ru_put (n : Nat) (me : T_me) (ru : T_ru) (a0 : Int32) (a1 : Int32) (a2 : Int32) : Option (T_me × T_ru) := (r_Me_pop n me).bind (fun q1 => (r_Me_pop n q1.2).bind (fun q2 => if (lg_cmp (q2.1.toInt64 - a1.toInt64) (0 : Int64)) < 0 then some (q2.2, (ru_fault_s ru (-3 : Int32))) else if (lg_cmp (q2.1.toInt64 - a1.toInt64) a2.toInt64) < 0 then (r_Me_change n q2.2 (((ru_base ru) + a0) + (q2.1.toInt64 - a1.toInt64).toInt32) q1.1).bind (fun q5 => some (q5, ru)) else some (q2.2, (ru_fault_s ru (-3 : Int32)))))
def rm_Ru_put : Jvm.Room := { frames := 1, cells := 0, slots := 0, locals := 22 }
set_option maxHeartbeats 4000000 in
set_option maxRecDepth 100000 in
theorem c_Ru_put {l : Launch} {D : va_G} {cI cL : ClassId} {ad : Nat → Nat} {ma : T_ma} {ko : T_ko} {sh : T_sh} {lo : T_lo} {de : T_de} {wa : T_wa} {me : T_me} {ru : T_ru} {ws0 : va_W} {sz n : Nat} {a0 : Int32} {a1 : Int32} {a2 : Int32} {me9 : T_me} {ru9 : T_ru} (hw : ws0 = (wX cI cL ad ma ko sh lo de wa me ru)) (h : r_Ru_put n me ru a0 a1 a2 = some (me9, ru9)) : Met l y_Ru_put (Cond.code y_Ru_put b_Ru_put 7 none :: TB) rm_Ru_put (PreW D clX (tyX cI cL) ws0 [.ref (ad 22), .int a0, .int a1, .int a2] sz) (PstV D clX (tyX cI cL) ws0 (wX cI cL ad ma ko sh lo de wa (me9) (ru9)) sz) 0 0 (va_A ws0 sz) := by
  refine k_met (by decide) (Nat.le_of_ble_eq_true rfl) ?_
  intro p e s m below meth c ls hx hb hr hml hts hown hlk hnm hsz hP hK hD hA hz hl
  have hP : va_P D clX (wX cI cL ad ma ko sh lo de wa me ru) s.heap := by rw [← hw]; exact hP
  have hD : va_D (va_A ws0 sz) (wX cI cL ad ma ko sh lo de wa me ru) := by rw [← hw]; exact hD
  have hS : va_S (va_A ws0 sz) s.heap s.heap [] := va_S.rf
  have hl : lv_has ls 7 [(0, .ref (ad 22)), (1, .int a0), (2, .int a1), (3, .int a2)] := hl
  generalize hQ : MQ below (PstV D clX (tyX cI cL) ws0 (wX cI cL ad ma ko sh lo de wa (me9) (ru9)) sz) [.ref (ad 22), .int a0, .int a1, .int a2].toArray s 0 0 (va_A ws0 sz) = Q
  unfold r_Ru_put at h
  refine lv_aload_n hx hb d_Ru_put_0 rfl (lv_at hl 0 rfl) ?_
  refine rd_Ru_memory hx hb hts hown hK hP lk_183 d_Ru_put_1 ?_
  obtain ⟨q1, hq1, h⟩ := Option.bind_eq_some_iff.mp h
  refine k_I (k_runVN ⟨hx, hb, hml, hown, hts⟩ (c_Me_pop rfl hq1) ok_Me_pop is_Me_pop lk_553 rfl rfl ⟨by decide, by decide⟩ hP hK hD hS hA hz (ci := 6) (q0 := 19) rfl rfl ob_Me rfl hl.1 rfl (Nat.le_of_ble_eq_true rfl) d_Ru_put_4 ⟨Nat.zero_le _, Nat.zero_le _⟩) hD hS hA (fun H locs hP hD hS => ?_)
  refine lv_istore (lv' := [(4, .int q1.1), (0, .ref (ad 22)), (1, .int a0), (2, .int a1), (3, .int a2)]) hx hb d_Ru_put_7 hl (by decide) rfl (fun ls hl => ?_)
  refine lv_aload_n hx hb d_Ru_put_9 rfl (lv_at hl 1 rfl) ?_
  refine rd_Ru_memory hx hb hts hown hK hP lk_183 d_Ru_put_10 ?_
  obtain ⟨q2, hq2, h⟩ := Option.bind_eq_some_iff.mp h
  refine k_I (k_runVN ⟨hx, hb, hml, hown, hts⟩ (c_Me_pop rfl hq2) ok_Me_pop is_Me_pop lk_553 rfl rfl ⟨by decide, by decide⟩ hP hK hD hS hA hz (ci := 6) (q0 := 19) rfl rfl ob_Me rfl hl.1 rfl (Nat.le_of_ble_eq_true rfl) d_Ru_put_13 ⟨Nat.zero_le _, Nat.zero_le _⟩) hD hS hA (fun H locs hP hD hS => ?_)
  refine lv_i2l (v := q2.1.toInt64) hx hb d_Ru_put_16 rfl ?_
  refine lv_iload_n hx hb d_Ru_put_17 rfl (lv_at hl 3 rfl) ?_
  refine lv_i2l (v := a1.toInt64) hx hb d_Ru_put_18 rfl ?_
  refine lv_lsub hx hb d_Ru_put_19 ?_
  refine lv_lstore (lv' := [(5, .long (q2.1.toInt64 - a1.toInt64)), (4, .int q1.1), (0, .ref (ad 22)), (1, .int a0), (2, .int a1), (3, .int a2)]) hx hb d_Ru_put_20 hl (by decide) rfl (fun ls hl => ?_)
  refine lv_lload hx hb d_Ru_put_22 (lv_at hl 0 rfl) ?_
  refine lv_lconst (v := 0) hx hb d_Ru_put_24 (by decide) ?_
  refine W.lcmp hx hb d_Ru_put_25 ?_
  refine lv_if_lt (tgt := 37) hx hb d_Ru_put_26 (by decide) (fun c3 => ?_) (fun c3 => ?_)
  · rw [if_pos c3] at h
    refine lv_aload_n hx hb d_Ru_put_37 rfl (lv_at hl 2 rfl) ?_
    refine lv_bipush (v := -3) hx hb d_Ru_put_38 (by decide) ?_
    refine wr_Ru_fault hx hb hts hown hK hP hD hS lk_194 d_Ru_put_40 (fun H locs hP hD hS => ?_)
    cases h
    subst hQ
    exact k_vret hx hb hr hlk hP hK hD hS d_Ru_put_43
  · rw [if_neg c3] at h
    refine lv_lload hx hb d_Ru_put_29 (lv_at hl 0 rfl) ?_
    refine lv_iload_n hx hb d_Ru_put_31 rfl (lv_at hl 5 rfl) ?_
    refine lv_i2l (v := a2.toInt64) hx hb d_Ru_put_32 rfl ?_
    refine W.lcmp hx hb d_Ru_put_33 ?_
    refine lv_if_lt (tgt := 44) hx hb d_Ru_put_34 (by decide) (fun c4 => ?_) (fun c4 => ?_)
    · rw [if_pos c4] at h
      refine lv_aload_n hx hb d_Ru_put_44 rfl (lv_at hl 2 rfl) ?_
      refine rd_Ru_memory hx hb hts hown hK hP lk_183 d_Ru_put_45 ?_
      refine lv_aload_n hx hb d_Ru_put_48 rfl (lv_at hl 2 rfl) ?_
      refine rd_Ru_base hx hb hts hown hK hP lk_191 (v := (ru_base ru)) rfl d_Ru_put_49 ?_
      refine lv_iload_n hx hb d_Ru_put_52 rfl (lv_at hl 3 rfl) ?_
      refine lv_iadd hx hb d_Ru_put_53 ?_
      refine lv_lload hx hb d_Ru_put_54 (lv_at hl 0 rfl) ?_
      refine lv_l2i (v := (q2.1.toInt64 - a1.toInt64).toInt32) hx hb d_Ru_put_56 rfl ?_
      refine lv_iadd hx hb d_Ru_put_57 ?_
      refine lv_iload hx hb d_Ru_put_58 (lv_at hl 1 rfl) ?_
      obtain ⟨q5, hq5, h⟩ := Option.bind_eq_some_iff.mp h
      refine k_V (k_runVN ⟨hx, hb, hml, hown, hts⟩ (c_Me_change rfl hq5) ok_Me_change is_Me_change lk_557 rfl rfl ⟨by decide, by decide⟩ hP hK hD hS hA hz (ci := 6) (q0 := 19) rfl rfl ob_Me rfl hl.1 rfl (Nat.le_of_ble_eq_true rfl) d_Ru_put_60 ⟨Nat.zero_le _, Nat.zero_le _⟩) hD hS hA (fun H locs hP hD hS => ?_)
      cases h
      subst hQ
      exact k_vret hx hb hr hlk hP hK hD hS d_Ru_put_63
    · rw [if_neg c4] at h
      refine lv_aload_n hx hb d_Ru_put_37 rfl (lv_at hl 2 rfl) ?_
      refine lv_bipush (v := -3) hx hb d_Ru_put_38 (by decide) ?_
      refine wr_Ru_fault hx hb hts hown hK hP hD hS lk_194 d_Ru_put_40 (fun H locs hP hD hS => ?_)
      cases h
      subst hQ
      exact k_vret hx hb hr hlk hP hK hD hS d_Ru_put_43
theorem d_Ru_take_0 : decode b_Ru_take 0 = .ok (.aload_n 0, 1) := by decide +kernel
theorem d_Ru_take_1 : decode b_Ru_take 1 = .ok (.getfield 25, 3) := by decide +kernel
theorem d_Ru_take_4 : decode b_Ru_take 4 = .ok (.invokevirtual 117, 3) := by decide +kernel
theorem d_Ru_take_7 : decode b_Ru_take 7 = .ok (.i2l, 1) := by decide +kernel
theorem d_Ru_take_8 : decode b_Ru_take 8 = .ok (.iload_n 2, 1) := by decide +kernel
theorem d_Ru_take_9 : decode b_Ru_take 9 = .ok (.i2l, 1) := by decide +kernel
theorem d_Ru_take_10 : decode b_Ru_take 10 = .ok (.lsub, 1) := by decide +kernel
theorem d_Ru_take_11 : decode b_Ru_take 11 = .ok (.lstore 4, 2) := by decide +kernel
theorem d_Ru_take_13 : decode b_Ru_take 13 = .ok (.lload 4, 2) := by decide +kernel
theorem d_Ru_take_15 : decode b_Ru_take 15 = .ok (.lconst 0, 1) := by decide +kernel
theorem d_Ru_take_16 : decode b_Ru_take 16 = .ok (.lcmp, 1) := by decide +kernel
theorem d_Ru_take_17 : decode b_Ru_take 17 = .ok (.ifCond .lt 11, 3) := by decide +kernel
theorem d_Ru_take_20 : decode b_Ru_take 20 = .ok (.lload 4, 2) := by decide +kernel
theorem d_Ru_take_22 : decode b_Ru_take 22 = .ok (.iload_n 3, 1) := by decide +kernel
theorem d_Ru_take_23 : decode b_Ru_take 23 = .ok (.i2l, 1) := by decide +kernel
theorem d_Ru_take_24 : decode b_Ru_take 24 = .ok (.lcmp, 1) := by decide +kernel
theorem d_Ru_take_25 : decode b_Ru_take 25 = .ok (.ifCond .lt 10, 3) := by decide +kernel
theorem d_Ru_take_28 : decode b_Ru_take 28 = .ok (.aload_n 0, 1) := by decide +kernel
theorem d_Ru_take_29 : decode b_Ru_take 29 = .ok (.bipush (-3), 2) := by decide +kernel
theorem d_Ru_take_31 : decode b_Ru_take 31 = .ok (.putfield 53, 3) := by decide +kernel
theorem d_Ru_take_34 : decode b_Ru_take 34 = .ok (.return_, 1) := by decide +kernel
theorem d_Ru_take_35 : decode b_Ru_take 35 = .ok (.aload_n 0, 1) := by decide +kernel
theorem d_Ru_take_36 : decode b_Ru_take 36 = .ok (.getfield 25, 3) := by decide +kernel
theorem d_Ru_take_39 : decode b_Ru_take 39 = .ok (.aload_n 0, 1) := by decide +kernel
theorem d_Ru_take_40 : decode b_Ru_take 40 = .ok (.getfield 25, 3) := by decide +kernel
theorem d_Ru_take_43 : decode b_Ru_take 43 = .ok (.aload_n 0, 1) := by decide +kernel
theorem d_Ru_take_44 : decode b_Ru_take 44 = .ok (.getfield 68, 3) := by decide +kernel
theorem d_Ru_take_47 : decode b_Ru_take 47 = .ok (.iload_n 1, 1) := by decide +kernel
theorem d_Ru_take_48 : decode b_Ru_take 48 = .ok (.iadd, 1) := by decide +kernel
theorem d_Ru_take_49 : decode b_Ru_take 49 = .ok (.lload 4, 2) := by decide +kernel
theorem d_Ru_take_51 : decode b_Ru_take 51 = .ok (.l2i, 1) := by decide +kernel
theorem d_Ru_take_52 : decode b_Ru_take 52 = .ok (.iadd, 1) := by decide +kernel
theorem d_Ru_take_53 : decode b_Ru_take 53 = .ok (.invokevirtual 114, 3) := by decide +kernel
theorem d_Ru_take_56 : decode b_Ru_take 56 = .ok (.invokevirtual 110, 3) := by decide +kernel
theorem d_Ru_take_59 : decode b_Ru_take 59 = .ok (.return_, 1) := by decide +kernel
def r_Ru_take (n : Nat) (me : T_me) (ru : T_ru) (a0 : Int32) (a1 : Int32) (a2 : Int32) : Option (T_me × T_ru) := (r_Me_pop n me).bind (fun q1 => if (lg_cmp (q1.1.toInt64 - a1.toInt64) (0 : Int64)) < 0 then some (q1.2, (ru_fault_s ru (-3 : Int32))) else if (lg_cmp (q1.1.toInt64 - a1.toInt64) a2.toInt64) < 0 then (r_Me_cell n q1.2 (((ru_base ru) + a0) + (q1.1.toInt64 - a1.toInt64).toInt32)).bind (fun q4 => (r_Me_push n q1.2 q4).bind (fun q5 => some (q5, ru))) else some (q1.2, (ru_fault_s ru (-3 : Int32))))
def rm_Ru_take : Jvm.Room := { frames := 2, cells := 0, slots := 0, locals := 45 }
set_option maxHeartbeats 4000000 in
set_option maxRecDepth 100000 in
theorem c_Ru_take {l : Launch} {D : va_G} {cI cL : ClassId} {ad : Nat → Nat} {ma : T_ma} {ko : T_ko} {sh : T_sh} {lo : T_lo} {de : T_de} {wa : T_wa} {me : T_me} {ru : T_ru} {ws0 : va_W} {sz n : Nat} {a0 : Int32} {a1 : Int32} {a2 : Int32} {me9 : T_me} {ru9 : T_ru} (hw : ws0 = (wX cI cL ad ma ko sh lo de wa me ru)) (h : r_Ru_take n me ru a0 a1 a2 = some (me9, ru9)) : Met l y_Ru_take (Cond.code y_Ru_take b_Ru_take 6 none :: TB) rm_Ru_take (PreW D clX (tyX cI cL) ws0 [.ref (ad 22), .int a0, .int a1, .int a2] sz) (PstV D clX (tyX cI cL) ws0 (wX cI cL ad ma ko sh lo de wa (me9) (ru9)) sz) 0 0 (va_A ws0 sz) := by
  refine k_met (by decide) (Nat.le_of_ble_eq_true rfl) ?_
  intro p e s m below meth c ls hx hb hr hml hts hown hlk hnm hsz hP hK hD hA hz hl
  have hP : va_P D clX (wX cI cL ad ma ko sh lo de wa me ru) s.heap := by rw [← hw]; exact hP
  have hD : va_D (va_A ws0 sz) (wX cI cL ad ma ko sh lo de wa me ru) := by rw [← hw]; exact hD
  have hS : va_S (va_A ws0 sz) s.heap s.heap [] := va_S.rf
  have hl : lv_has ls 6 [(0, .ref (ad 22)), (1, .int a0), (2, .int a1), (3, .int a2)] := hl
  generalize hQ : MQ below (PstV D clX (tyX cI cL) ws0 (wX cI cL ad ma ko sh lo de wa (me9) (ru9)) sz) [.ref (ad 22), .int a0, .int a1, .int a2].toArray s 0 0 (va_A ws0 sz) = Q
  unfold r_Ru_take at h
  refine lv_aload_n hx hb d_Ru_take_0 rfl (lv_at hl 0 rfl) ?_
  refine rd_Ru_memory hx hb hts hown hK hP lk_183 d_Ru_take_1 ?_
  obtain ⟨q1, hq1, h⟩ := Option.bind_eq_some_iff.mp h
  refine k_I (k_runVN ⟨hx, hb, hml, hown, hts⟩ (c_Me_pop rfl hq1) ok_Me_pop is_Me_pop lk_553 rfl rfl ⟨by decide, by decide⟩ hP hK hD hS hA hz (ci := 6) (q0 := 19) rfl rfl ob_Me rfl hl.1 rfl (Nat.le_of_ble_eq_true rfl) d_Ru_take_4 ⟨Nat.zero_le _, Nat.zero_le _⟩) hD hS hA (fun H locs hP hD hS => ?_)
  refine lv_i2l (v := q1.1.toInt64) hx hb d_Ru_take_7 rfl ?_
  refine lv_iload_n hx hb d_Ru_take_8 rfl (lv_at hl 2 rfl) ?_
  refine lv_i2l (v := a1.toInt64) hx hb d_Ru_take_9 rfl ?_
  refine lv_lsub hx hb d_Ru_take_10 ?_
  refine lv_lstore (lv' := [(4, .long (q1.1.toInt64 - a1.toInt64)), (0, .ref (ad 22)), (1, .int a0), (2, .int a1), (3, .int a2)]) hx hb d_Ru_take_11 hl (by decide) rfl (fun ls hl => ?_)
  refine lv_lload hx hb d_Ru_take_13 (lv_at hl 0 rfl) ?_
  refine lv_lconst (v := 0) hx hb d_Ru_take_15 (by decide) ?_
  refine W.lcmp hx hb d_Ru_take_16 ?_
  refine lv_if_lt (tgt := 28) hx hb d_Ru_take_17 (by decide) (fun c2 => ?_) (fun c2 => ?_)
  · rw [if_pos c2] at h
    refine lv_aload_n hx hb d_Ru_take_28 rfl (lv_at hl 1 rfl) ?_
    refine lv_bipush (v := -3) hx hb d_Ru_take_29 (by decide) ?_
    refine wr_Ru_fault hx hb hts hown hK hP hD hS lk_194 d_Ru_take_31 (fun H locs hP hD hS => ?_)
    cases h
    subst hQ
    exact k_vret hx hb hr hlk hP hK hD hS d_Ru_take_34
  · rw [if_neg c2] at h
    refine lv_lload hx hb d_Ru_take_20 (lv_at hl 0 rfl) ?_
    refine lv_iload_n hx hb d_Ru_take_22 rfl (lv_at hl 4 rfl) ?_
    refine lv_i2l (v := a2.toInt64) hx hb d_Ru_take_23 rfl ?_
    refine W.lcmp hx hb d_Ru_take_24 ?_
    refine lv_if_lt (tgt := 35) hx hb d_Ru_take_25 (by decide) (fun c3 => ?_) (fun c3 => ?_)
    · rw [if_pos c3] at h
      refine lv_aload_n hx hb d_Ru_take_35 rfl (lv_at hl 1 rfl) ?_
      refine rd_Ru_memory hx hb hts hown hK hP lk_183 d_Ru_take_36 ?_
      refine lv_aload_n hx hb d_Ru_take_39 rfl (lv_at hl 1 rfl) ?_
      refine rd_Ru_memory hx hb hts hown hK hP lk_183 d_Ru_take_40 ?_
      refine lv_aload_n hx hb d_Ru_take_43 rfl (lv_at hl 1 rfl) ?_
      refine rd_Ru_base hx hb hts hown hK hP lk_191 (v := (ru_base ru)) rfl d_Ru_take_44 ?_
      refine lv_iload_n hx hb d_Ru_take_47 rfl (lv_at hl 2 rfl) ?_
      refine lv_iadd hx hb d_Ru_take_48 ?_
      refine lv_lload hx hb d_Ru_take_49 (lv_at hl 0 rfl) ?_
      refine lv_l2i (v := (q1.1.toInt64 - a1.toInt64).toInt32) hx hb d_Ru_take_51 rfl ?_
      refine lv_iadd hx hb d_Ru_take_52 ?_
      obtain ⟨q4, hq4, h⟩ := Option.bind_eq_some_iff.mp h
      refine k_I (k_runVN ⟨hx, hb, hml, hown, hts⟩ (c_Me_cell rfl hq4) ok_Me_cell is_Me_cell lk_549 rfl rfl ⟨by decide, by decide⟩ hP hK hD hS hA hz (ci := 6) (q0 := 19) rfl rfl ob_Me rfl hl.1 rfl (Nat.le_of_ble_eq_true rfl) d_Ru_take_53 ⟨Nat.zero_le _, Nat.zero_le _⟩) hD hS hA (fun H locs hP hD hS => ?_)
      obtain ⟨q5, hq5, h⟩ := Option.bind_eq_some_iff.mp h
      refine k_V (k_runVN ⟨hx, hb, hml, hown, hts⟩ (c_Me_push rfl hq5) ok_Me_push is_Me_push lk_544 rfl rfl ⟨by decide, by decide⟩ hP hK hD hS hA hz (ci := 6) (q0 := 19) rfl rfl ob_Me rfl hl.1 rfl (Nat.le_of_ble_eq_true rfl) d_Ru_take_56 ⟨Nat.zero_le _, Nat.zero_le _⟩) hD hS hA (fun H locs hP hD hS => ?_)
      cases h
      subst hQ
      exact k_vret hx hb hr hlk hP hK hD hS d_Ru_take_59
    · rw [if_neg c3] at h
      refine lv_aload_n hx hb d_Ru_take_28 rfl (lv_at hl 1 rfl) ?_
      refine lv_bipush (v := -3) hx hb d_Ru_take_29 (by decide) ?_
      refine wr_Ru_fault hx hb hts hown hK hP hD hS lk_194 d_Ru_take_31 (fun H locs hP hD hS => ?_)
      cases h
      subst hQ
      exact k_vret hx hb hr hlk hP hK hD hS d_Ru_take_34
theorem d_Ru_move_0 : decode b_Ru_move 0 = .ok (.iload_n 1, 1) := by decide +kernel
theorem d_Ru_move_1 : decode b_Ru_move 1 = .ok (.tableswitch 176 0 6 #[43, 54, 77, 100, 111, 122, 149], 43) := by decide +kernel
theorem d_Ru_move_44 : decode b_Ru_move 44 = .ok (.aload_n 0, 1) := by decide +kernel
theorem d_Ru_move_45 : decode b_Ru_move 45 = .ok (.getfield 25, 3) := by decide +kernel
theorem d_Ru_move_48 : decode b_Ru_move 48 = .ok (.iload_n 2, 1) := by decide +kernel
theorem d_Ru_move_49 : decode b_Ru_move 49 = .ok (.invokevirtual 110, 3) := by decide +kernel
theorem d_Ru_move_52 : decode b_Ru_move 52 = .ok (.goto 125, 3) := by decide +kernel
theorem d_Ru_move_55 : decode b_Ru_move 55 = .ok (.aload_n 0, 1) := by decide +kernel
theorem d_Ru_move_56 : decode b_Ru_move 56 = .ok (.getfield 25, 3) := by decide +kernel
theorem d_Ru_move_59 : decode b_Ru_move 59 = .ok (.aload_n 0, 1) := by decide +kernel
theorem d_Ru_move_60 : decode b_Ru_move 60 = .ok (.getfield 25, 3) := by decide +kernel
theorem d_Ru_move_63 : decode b_Ru_move 63 = .ok (.aload_n 0, 1) := by decide +kernel
theorem d_Ru_move_64 : decode b_Ru_move 64 = .ok (.getfield 68, 3) := by decide +kernel
theorem d_Ru_move_67 : decode b_Ru_move 67 = .ok (.iload_n 2, 1) := by decide +kernel
theorem d_Ru_move_68 : decode b_Ru_move 68 = .ok (.iadd, 1) := by decide +kernel
theorem d_Ru_move_69 : decode b_Ru_move 69 = .ok (.invokevirtual 114, 3) := by decide +kernel
theorem d_Ru_move_72 : decode b_Ru_move 72 = .ok (.invokevirtual 110, 3) := by decide +kernel
theorem d_Ru_move_75 : decode b_Ru_move 75 = .ok (.goto 102, 3) := by decide +kernel
theorem d_Ru_move_78 : decode b_Ru_move 78 = .ok (.aload_n 0, 1) := by decide +kernel
theorem d_Ru_move_79 : decode b_Ru_move 79 = .ok (.getfield 25, 3) := by decide +kernel
theorem d_Ru_move_82 : decode b_Ru_move 82 = .ok (.aload_n 0, 1) := by decide +kernel
theorem d_Ru_move_83 : decode b_Ru_move 83 = .ok (.getfield 68, 3) := by decide +kernel
theorem d_Ru_move_86 : decode b_Ru_move 86 = .ok (.iload_n 2, 1) := by decide +kernel
theorem d_Ru_move_87 : decode b_Ru_move 87 = .ok (.iadd, 1) := by decide +kernel
theorem d_Ru_move_88 : decode b_Ru_move 88 = .ok (.aload_n 0, 1) := by decide +kernel
theorem d_Ru_move_89 : decode b_Ru_move 89 = .ok (.getfield 25, 3) := by decide +kernel
theorem d_Ru_move_92 : decode b_Ru_move 92 = .ok (.invokevirtual 117, 3) := by decide +kernel
theorem d_Ru_move_95 : decode b_Ru_move 95 = .ok (.invokevirtual 120, 3) := by decide +kernel
theorem d_Ru_move_98 : decode b_Ru_move 98 = .ok (.goto 79, 3) := by decide +kernel
theorem d_Ru_move_101 : decode b_Ru_move 101 = .ok (.aload_n 0, 1) := by decide +kernel
theorem d_Ru_move_102 : decode b_Ru_move 102 = .ok (.iload_n 2, 1) := by decide +kernel
theorem d_Ru_move_103 : decode b_Ru_move 103 = .ok (.iload_n 3, 1) := by decide +kernel
theorem d_Ru_move_104 : decode b_Ru_move 104 = .ok (.iload 4, 2) := by decide +kernel
theorem d_Ru_move_106 : decode b_Ru_move 106 = .ok (.invokevirtual 123, 3) := by decide +kernel
theorem d_Ru_move_109 : decode b_Ru_move 109 = .ok (.goto 68, 3) := by decide +kernel
theorem d_Ru_move_112 : decode b_Ru_move 112 = .ok (.aload_n 0, 1) := by decide +kernel
theorem d_Ru_move_113 : decode b_Ru_move 113 = .ok (.iload_n 2, 1) := by decide +kernel
theorem d_Ru_move_114 : decode b_Ru_move 114 = .ok (.iload_n 3, 1) := by decide +kernel
theorem d_Ru_move_115 : decode b_Ru_move 115 = .ok (.iload 4, 2) := by decide +kernel
theorem d_Ru_move_117 : decode b_Ru_move 117 = .ok (.invokevirtual 126, 3) := by decide +kernel
theorem d_Ru_move_120 : decode b_Ru_move 120 = .ok (.goto 57, 3) := by decide +kernel
theorem d_Ru_move_123 : decode b_Ru_move 123 = .ok (.aload_n 0, 1) := by decide +kernel
theorem d_Ru_move_124 : decode b_Ru_move 124 = .ok (.getfield 25, 3) := by decide +kernel
theorem d_Ru_move_127 : decode b_Ru_move 127 = .ok (.aload_n 0, 1) := by decide +kernel
theorem d_Ru_move_128 : decode b_Ru_move 128 = .ok (.getfield 25, 3) := by decide +kernel
theorem d_Ru_move_131 : decode b_Ru_move 131 = .ok (.aload_n 0, 1) := by decide +kernel
theorem d_Ru_move_132 : decode b_Ru_move 132 = .ok (.getfield 21, 3) := by decide +kernel
theorem d_Ru_move_135 : decode b_Ru_move 135 = .ok (.iload_n 2, 1) := by decide +kernel
theorem d_Ru_move_136 : decode b_Ru_move 136 = .ok (.invokevirtual 129, 3) := by decide +kernel
theorem d_Ru_move_139 : decode b_Ru_move 139 = .ok (.iload_n 3, 1) := by decide +kernel
theorem d_Ru_move_140 : decode b_Ru_move 140 = .ok (.iadd, 1) := by decide +kernel
theorem d_Ru_move_141 : decode b_Ru_move 141 = .ok (.invokevirtual 114, 3) := by decide +kernel
theorem d_Ru_move_144 : decode b_Ru_move 144 = .ok (.invokevirtual 110, 3) := by decide +kernel
theorem d_Ru_move_147 : decode b_Ru_move 147 = .ok (.goto 30, 3) := by decide +kernel
theorem d_Ru_move_150 : decode b_Ru_move 150 = .ok (.aload_n 0, 1) := by decide +kernel
theorem d_Ru_move_151 : decode b_Ru_move 151 = .ok (.getfield 25, 3) := by decide +kernel
theorem d_Ru_move_154 : decode b_Ru_move 154 = .ok (.aload_n 0, 1) := by decide +kernel
theorem d_Ru_move_155 : decode b_Ru_move 155 = .ok (.getfield 21, 3) := by decide +kernel
theorem d_Ru_move_158 : decode b_Ru_move 158 = .ok (.iload_n 2, 1) := by decide +kernel
theorem d_Ru_move_159 : decode b_Ru_move 159 = .ok (.invokevirtual 129, 3) := by decide +kernel
theorem d_Ru_move_162 : decode b_Ru_move 162 = .ok (.iload_n 3, 1) := by decide +kernel
theorem d_Ru_move_163 : decode b_Ru_move 163 = .ok (.iadd, 1) := by decide +kernel
theorem d_Ru_move_164 : decode b_Ru_move 164 = .ok (.aload_n 0, 1) := by decide +kernel
theorem d_Ru_move_165 : decode b_Ru_move 165 = .ok (.getfield 25, 3) := by decide +kernel
theorem d_Ru_move_168 : decode b_Ru_move 168 = .ok (.invokevirtual 117, 3) := by decide +kernel
theorem d_Ru_move_171 : decode b_Ru_move 171 = .ok (.invokevirtual 120, 3) := by decide +kernel
theorem d_Ru_move_174 : decode b_Ru_move 174 = .ok (.goto 3, 3) := by decide +kernel
theorem d_Ru_move_177 : decode b_Ru_move 177 = .ok (.return_, 1) := by decide +kernel
def r_Ru_move (n : Nat) (ko : T_ko) (me : T_me) (ru : T_ru) (a0 : Int32) (a1 : Int32) (a2 : Int32) (a3 : Int32) : Option (T_me × T_ru) := if a0 = (0 : Int32) then (r_Me_push n me a1).bind (fun q2 => some (q2, ru)) else if a0 = (1 : Int32) then (r_Me_cell n me ((ru_base ru) + a1)).bind (fun q4 => (r_Me_push n me q4).bind (fun q5 => some (q5, ru))) else if a0 = (2 : Int32) then (r_Me_pop n me).bind (fun q7 => (r_Me_change n q7.2 ((ru_base ru) + a1) q7.1).bind (fun q8 => some (q8, ru))) else if a0 = (3 : Int32) then (r_Ru_take n me ru a1 a2 a3).bind (fun q10 => some (q10.1, q10.2)) else if a0 = (4 : Int32) then (r_Ru_put n me ru a1 a2 a3).bind (fun q12 => some (q12.1, q12.2)) else if a0 = (5 : Int32) then (r_Co_placeOf n ko a1).bind (fun q14 => (r_Me_cell n me (q14 + a2)).bind (fun q15 => (r_Me_push n me q15).bind (fun q16 => some (q16, ru)))) else if a0 = (6 : Int32) then (r_Co_placeOf n ko a1).bind (fun q18 => (r_Me_pop n me).bind (fun q19 => (r_Me_change n q19.2 (q18 + a2) q19.1).bind (fun q20 => some (q20, ru)))) else some (me, ru)
def rm_Ru_move : Jvm.Room := { frames := 3, cells := 0, slots := 0, locals := 70 }
set_option maxHeartbeats 4000000 in
set_option maxRecDepth 100000 in
theorem c_Ru_move {l : Launch} {D : va_G} {cI cL : ClassId} {ad : Nat → Nat} {ma : T_ma} {ko : T_ko} {sh : T_sh} {lo : T_lo} {de : T_de} {wa : T_wa} {me : T_me} {ru : T_ru} {ws0 : va_W} {sz n : Nat} {a0 : Int32} {a1 : Int32} {a2 : Int32} {a3 : Int32} {me9 : T_me} {ru9 : T_ru} (hw : ws0 = (wX cI cL ad ma ko sh lo de wa me ru)) (h : r_Ru_move n ko me ru a0 a1 a2 a3 = some (me9, ru9)) : Met l y_Ru_move (Cond.code y_Ru_move b_Ru_move 5 none :: TB) rm_Ru_move (PreW D clX (tyX cI cL) ws0 [.ref (ad 22), .int a0, .int a1, .int a2, .int a3] sz) (PstV D clX (tyX cI cL) ws0 (wX cI cL ad ma ko sh lo de wa (me9) (ru9)) sz) 0 0 (va_A ws0 sz) := by
  refine k_met (by decide) (Nat.le_of_ble_eq_true rfl) ?_
  intro p e s m below meth c ls hx hb hr hml hts hown hlk hnm hsz hP hK hD hA hz hl
  have hP : va_P D clX (wX cI cL ad ma ko sh lo de wa me ru) s.heap := by rw [← hw]; exact hP
  have hD : va_D (va_A ws0 sz) (wX cI cL ad ma ko sh lo de wa me ru) := by rw [← hw]; exact hD
  have hS : va_S (va_A ws0 sz) s.heap s.heap [] := va_S.rf
  have hl : lv_has ls 5 [(0, .ref (ad 22)), (1, .int a0), (2, .int a1), (3, .int a2), (4, .int a3)] := hl
  generalize hQ : MQ below (PstV D clX (tyX cI cL) ws0 (wX cI cL ad ma ko sh lo de wa (me9) (ru9)) sz) [.ref (ad 22), .int a0, .int a1, .int a2, .int a3].toArray s 0 0 (va_A ws0 sz) = Q
  unfold r_Ru_move at h
  refine lv_iload_n hx hb d_Ru_move_0 rfl (lv_at hl 1 rfl) ?_
  by_cases c1 : a0 = (0 : Int32)
  · rw [if_pos c1] at h
    refine k_sw c1 ?_
    refine lv_tableIn (tgt := 44) hx hb d_Ru_move_1 (by decide) (by decide) rfl (by decide) ?_
    refine lv_aload_n hx hb d_Ru_move_44 rfl (lv_at hl 0 rfl) ?_
    refine rd_Ru_memory hx hb hts hown hK hP lk_183 d_Ru_move_45 ?_
    refine lv_iload_n hx hb d_Ru_move_48 rfl (lv_at hl 2 rfl) ?_
    obtain ⟨q2, hq2, h⟩ := Option.bind_eq_some_iff.mp h
    refine k_V (k_runVN ⟨hx, hb, hml, hown, hts⟩ (c_Me_push rfl hq2) ok_Me_push is_Me_push lk_544 rfl rfl ⟨by decide, by decide⟩ hP hK hD hS hA hz (ci := 6) (q0 := 19) rfl rfl ob_Me rfl hl.1 rfl (Nat.le_of_ble_eq_true rfl) d_Ru_move_49 ⟨Nat.zero_le _, Nat.zero_le _⟩) hD hS hA (fun H locs hP hD hS => ?_)
    refine lv_goto (tgt := 177) hx hb d_Ru_move_52 (by decide) ?_
    cases h
    subst hQ
    exact k_vret hx hb hr hlk hP hK hD hS d_Ru_move_177
  · rw [if_neg c1] at h
    by_cases c3 : a0 = (1 : Int32)
    · rw [if_pos c3] at h
      refine k_sw c3 ?_
      refine lv_tableIn (tgt := 55) hx hb d_Ru_move_1 (by decide) (by decide) rfl (by decide) ?_
      refine lv_aload_n hx hb d_Ru_move_55 rfl (lv_at hl 0 rfl) ?_
      refine rd_Ru_memory hx hb hts hown hK hP lk_183 d_Ru_move_56 ?_
      refine lv_aload_n hx hb d_Ru_move_59 rfl (lv_at hl 0 rfl) ?_
      refine rd_Ru_memory hx hb hts hown hK hP lk_183 d_Ru_move_60 ?_
      refine lv_aload_n hx hb d_Ru_move_63 rfl (lv_at hl 0 rfl) ?_
      refine rd_Ru_base hx hb hts hown hK hP lk_191 (v := (ru_base ru)) rfl d_Ru_move_64 ?_
      refine lv_iload_n hx hb d_Ru_move_67 rfl (lv_at hl 2 rfl) ?_
      refine lv_iadd hx hb d_Ru_move_68 ?_
      obtain ⟨q4, hq4, h⟩ := Option.bind_eq_some_iff.mp h
      refine k_I (k_runVN ⟨hx, hb, hml, hown, hts⟩ (c_Me_cell rfl hq4) ok_Me_cell is_Me_cell lk_549 rfl rfl ⟨by decide, by decide⟩ hP hK hD hS hA hz (ci := 6) (q0 := 19) rfl rfl ob_Me rfl hl.1 rfl (Nat.le_of_ble_eq_true rfl) d_Ru_move_69 ⟨Nat.zero_le _, Nat.zero_le _⟩) hD hS hA (fun H locs hP hD hS => ?_)
      obtain ⟨q5, hq5, h⟩ := Option.bind_eq_some_iff.mp h
      refine k_V (k_runVN ⟨hx, hb, hml, hown, hts⟩ (c_Me_push rfl hq5) ok_Me_push is_Me_push lk_544 rfl rfl ⟨by decide, by decide⟩ hP hK hD hS hA hz (ci := 6) (q0 := 19) rfl rfl ob_Me rfl hl.1 rfl (Nat.le_of_ble_eq_true rfl) d_Ru_move_72 ⟨Nat.zero_le _, Nat.zero_le _⟩) hD hS hA (fun H locs hP hD hS => ?_)
      refine lv_goto (tgt := 177) hx hb d_Ru_move_75 (by decide) ?_
      cases h
      subst hQ
      exact k_vret hx hb hr hlk hP hK hD hS d_Ru_move_177
    · rw [if_neg c3] at h
      by_cases c6 : a0 = (2 : Int32)
      · rw [if_pos c6] at h
        refine k_sw c6 ?_
        refine lv_tableIn (tgt := 78) hx hb d_Ru_move_1 (by decide) (by decide) rfl (by decide) ?_
        refine lv_aload_n hx hb d_Ru_move_78 rfl (lv_at hl 0 rfl) ?_
        refine rd_Ru_memory hx hb hts hown hK hP lk_183 d_Ru_move_79 ?_
        refine lv_aload_n hx hb d_Ru_move_82 rfl (lv_at hl 0 rfl) ?_
        refine rd_Ru_base hx hb hts hown hK hP lk_191 (v := (ru_base ru)) rfl d_Ru_move_83 ?_
        refine lv_iload_n hx hb d_Ru_move_86 rfl (lv_at hl 2 rfl) ?_
        refine lv_iadd hx hb d_Ru_move_87 ?_
        refine lv_aload_n hx hb d_Ru_move_88 rfl (lv_at hl 0 rfl) ?_
        refine rd_Ru_memory hx hb hts hown hK hP lk_183 d_Ru_move_89 ?_
        obtain ⟨q7, hq7, h⟩ := Option.bind_eq_some_iff.mp h
        refine k_I (k_runVN ⟨hx, hb, hml, hown, hts⟩ (c_Me_pop rfl hq7) ok_Me_pop is_Me_pop lk_553 rfl rfl ⟨by decide, by decide⟩ hP hK hD hS hA hz (ci := 6) (q0 := 19) rfl rfl ob_Me rfl hl.1 rfl (Nat.le_of_ble_eq_true rfl) d_Ru_move_92 ⟨Nat.zero_le _, Nat.zero_le _⟩) hD hS hA (fun H locs hP hD hS => ?_)
        obtain ⟨q8, hq8, h⟩ := Option.bind_eq_some_iff.mp h
        refine k_V (k_runVN ⟨hx, hb, hml, hown, hts⟩ (c_Me_change rfl hq8) ok_Me_change is_Me_change lk_557 rfl rfl ⟨by decide, by decide⟩ hP hK hD hS hA hz (ci := 6) (q0 := 19) rfl rfl ob_Me rfl hl.1 rfl (Nat.le_of_ble_eq_true rfl) d_Ru_move_95 ⟨Nat.zero_le _, Nat.zero_le _⟩) hD hS hA (fun H locs hP hD hS => ?_)
        refine lv_goto (tgt := 177) hx hb d_Ru_move_98 (by decide) ?_
        cases h
        subst hQ
        exact k_vret hx hb hr hlk hP hK hD hS d_Ru_move_177
      · rw [if_neg c6] at h
        by_cases c9 : a0 = (3 : Int32)
        · rw [if_pos c9] at h
          refine k_sw c9 ?_
          refine lv_tableIn (tgt := 101) hx hb d_Ru_move_1 (by decide) (by decide) rfl (by decide) ?_
          refine lv_aload_n hx hb d_Ru_move_101 rfl (lv_at hl 0 rfl) ?_
          refine lv_iload_n hx hb d_Ru_move_102 rfl (lv_at hl 2 rfl) ?_
          refine lv_iload_n hx hb d_Ru_move_103 rfl (lv_at hl 3 rfl) ?_
          refine lv_iload hx hb d_Ru_move_104 (lv_at hl 4 rfl) ?_
          obtain ⟨q10, hq10, h⟩ := Option.bind_eq_some_iff.mp h
          refine k_V (k_runV ⟨hx, hb, hml, hown, hts⟩ (c_Ru_take rfl hq10) ok_Ru_take is_Ru_take lk_561 rfl rfl ⟨by decide, by decide⟩ hP hK hD hS hA hz (ci := 7) (q0 := 22) rfl rfl ob_Ru rfl hl.1 rfl (Nat.le_of_ble_eq_true rfl) d_Ru_move_106 ⟨Nat.zero_le _, Nat.zero_le _⟩) hD hS hA (fun H locs hP hD hS => ?_)
          refine lv_goto (tgt := 177) hx hb d_Ru_move_109 (by decide) ?_
          cases h
          subst hQ
          exact k_vret hx hb hr hlk hP hK hD hS d_Ru_move_177
        · rw [if_neg c9] at h
          by_cases c11 : a0 = (4 : Int32)
          · rw [if_pos c11] at h
            refine k_sw c11 ?_
            refine lv_tableIn (tgt := 112) hx hb d_Ru_move_1 (by decide) (by decide) rfl (by decide) ?_
            refine lv_aload_n hx hb d_Ru_move_112 rfl (lv_at hl 0 rfl) ?_
            refine lv_iload_n hx hb d_Ru_move_113 rfl (lv_at hl 2 rfl) ?_
            refine lv_iload_n hx hb d_Ru_move_114 rfl (lv_at hl 3 rfl) ?_
            refine lv_iload hx hb d_Ru_move_115 (lv_at hl 4 rfl) ?_
            obtain ⟨q12, hq12, h⟩ := Option.bind_eq_some_iff.mp h
            refine k_V (k_runV ⟨hx, hb, hml, hown, hts⟩ (c_Ru_put rfl hq12) ok_Ru_put is_Ru_put lk_565 rfl rfl ⟨by decide, by decide⟩ hP hK hD hS hA hz (ci := 7) (q0 := 22) rfl rfl ob_Ru rfl hl.1 rfl (Nat.le_of_ble_eq_true rfl) d_Ru_move_117 ⟨Nat.zero_le _, Nat.zero_le _⟩) hD hS hA (fun H locs hP hD hS => ?_)
            refine lv_goto (tgt := 177) hx hb d_Ru_move_120 (by decide) ?_
            cases h
            subst hQ
            exact k_vret hx hb hr hlk hP hK hD hS d_Ru_move_177
          · rw [if_neg c11] at h
            by_cases c13 : a0 = (5 : Int32)
            · rw [if_pos c13] at h
              refine k_sw c13 ?_
              refine lv_tableIn (tgt := 123) hx hb d_Ru_move_1 (by decide) (by decide) rfl (by decide) ?_
              refine lv_aload_n hx hb d_Ru_move_123 rfl (lv_at hl 0 rfl) ?_
              refine rd_Ru_memory hx hb hts hown hK hP lk_183 d_Ru_move_124 ?_
              refine lv_aload_n hx hb d_Ru_move_127 rfl (lv_at hl 0 rfl) ?_
              refine rd_Ru_memory hx hb hts hown hK hP lk_183 d_Ru_move_128 ?_
              refine lv_aload_n hx hb d_Ru_move_131 rfl (lv_at hl 0 rfl) ?_
              refine rd_Ru_code hx hb hts hown hK hP lk_182 d_Ru_move_132 ?_
              refine lv_iload_n hx hb d_Ru_move_135 rfl (lv_at hl 2 rfl) ?_
              obtain ⟨q14, hq14, h⟩ := Option.bind_eq_some_iff.mp h
              refine k_I (k_runVN ⟨hx, hb, hml, hown, hts⟩ (c_Co_placeOf rfl hq14) ok_Co_placeOf is_Co_placeOf lk_569 rfl rfl ⟨by decide, by decide⟩ hP hK hD hS hA hz (ci := 1) (q0 := 1) rfl rfl ob_Co rfl hl.1 rfl (Nat.le_of_ble_eq_true rfl) d_Ru_move_136 ⟨Nat.zero_le _, Nat.zero_le _⟩) hD hS hA (fun H locs hP hD hS => ?_)
              refine lv_iload_n hx hb d_Ru_move_139 rfl (lv_at hl 3 rfl) ?_
              refine lv_iadd hx hb d_Ru_move_140 ?_
              obtain ⟨q15, hq15, h⟩ := Option.bind_eq_some_iff.mp h
              refine k_I (k_runVN ⟨hx, hb, hml, hown, hts⟩ (c_Me_cell rfl hq15) ok_Me_cell is_Me_cell lk_549 rfl rfl ⟨by decide, by decide⟩ hP hK hD hS hA hz (ci := 6) (q0 := 19) rfl rfl ob_Me rfl hl.1 rfl (Nat.le_of_ble_eq_true rfl) d_Ru_move_141 ⟨Nat.zero_le _, Nat.zero_le _⟩) hD hS hA (fun H locs hP hD hS => ?_)
              obtain ⟨q16, hq16, h⟩ := Option.bind_eq_some_iff.mp h
              refine k_V (k_runVN ⟨hx, hb, hml, hown, hts⟩ (c_Me_push rfl hq16) ok_Me_push is_Me_push lk_544 rfl rfl ⟨by decide, by decide⟩ hP hK hD hS hA hz (ci := 6) (q0 := 19) rfl rfl ob_Me rfl hl.1 rfl (Nat.le_of_ble_eq_true rfl) d_Ru_move_144 ⟨Nat.zero_le _, Nat.zero_le _⟩) hD hS hA (fun H locs hP hD hS => ?_)
              refine lv_goto (tgt := 177) hx hb d_Ru_move_147 (by decide) ?_
              cases h
              subst hQ
              exact k_vret hx hb hr hlk hP hK hD hS d_Ru_move_177
            · rw [if_neg c13] at h
              by_cases c17 : a0 = (6 : Int32)
              · rw [if_pos c17] at h
                refine k_sw c17 ?_
                refine lv_tableIn (tgt := 150) hx hb d_Ru_move_1 (by decide) (by decide) rfl (by decide) ?_
                refine lv_aload_n hx hb d_Ru_move_150 rfl (lv_at hl 0 rfl) ?_
                refine rd_Ru_memory hx hb hts hown hK hP lk_183 d_Ru_move_151 ?_
                refine lv_aload_n hx hb d_Ru_move_154 rfl (lv_at hl 0 rfl) ?_
                refine rd_Ru_code hx hb hts hown hK hP lk_182 d_Ru_move_155 ?_
                refine lv_iload_n hx hb d_Ru_move_158 rfl (lv_at hl 2 rfl) ?_
                obtain ⟨q18, hq18, h⟩ := Option.bind_eq_some_iff.mp h
                refine k_I (k_runVN ⟨hx, hb, hml, hown, hts⟩ (c_Co_placeOf rfl hq18) ok_Co_placeOf is_Co_placeOf lk_569 rfl rfl ⟨by decide, by decide⟩ hP hK hD hS hA hz (ci := 1) (q0 := 1) rfl rfl ob_Co rfl hl.1 rfl (Nat.le_of_ble_eq_true rfl) d_Ru_move_159 ⟨Nat.zero_le _, Nat.zero_le _⟩) hD hS hA (fun H locs hP hD hS => ?_)
                refine lv_iload_n hx hb d_Ru_move_162 rfl (lv_at hl 3 rfl) ?_
                refine lv_iadd hx hb d_Ru_move_163 ?_
                refine lv_aload_n hx hb d_Ru_move_164 rfl (lv_at hl 0 rfl) ?_
                refine rd_Ru_memory hx hb hts hown hK hP lk_183 d_Ru_move_165 ?_
                obtain ⟨q19, hq19, h⟩ := Option.bind_eq_some_iff.mp h
                refine k_I (k_runVN ⟨hx, hb, hml, hown, hts⟩ (c_Me_pop rfl hq19) ok_Me_pop is_Me_pop lk_553 rfl rfl ⟨by decide, by decide⟩ hP hK hD hS hA hz (ci := 6) (q0 := 19) rfl rfl ob_Me rfl hl.1 rfl (Nat.le_of_ble_eq_true rfl) d_Ru_move_168 ⟨Nat.zero_le _, Nat.zero_le _⟩) hD hS hA (fun H locs hP hD hS => ?_)
                obtain ⟨q20, hq20, h⟩ := Option.bind_eq_some_iff.mp h
                refine k_V (k_runVN ⟨hx, hb, hml, hown, hts⟩ (c_Me_change rfl hq20) ok_Me_change is_Me_change lk_557 rfl rfl ⟨by decide, by decide⟩ hP hK hD hS hA hz (ci := 6) (q0 := 19) rfl rfl ob_Me rfl hl.1 rfl (Nat.le_of_ble_eq_true rfl) d_Ru_move_171 ⟨Nat.zero_le _, Nat.zero_le _⟩) hD hS hA (fun H locs hP hD hS => ?_)
                refine lv_goto (tgt := 177) hx hb d_Ru_move_174 (by decide) ?_
                cases h
                subst hQ
                exact k_vret hx hb hr hlk hP hK hD hS d_Ru_move_177
              · rw [if_neg c17] at h
                refine lv_tableOut (tgt := 177) hx hb d_Ru_move_1 (by have ec1 := lv_neT c1 (a := 0) (by decide); have ec3 := lv_neT c3 (a := 1) (by decide); have ec6 := lv_neT c6 (a := 2) (by decide); have ec9 := lv_neT c9 (a := 3) (by decide); have ec11 := lv_neT c11 (a := 4) (by decide); have ec13 := lv_neT c13 (a := 5) (by decide); have ec17 := lv_neT c17 (a := 6) (by decide); omega) (by decide) ?_
                cases h
                subst hQ
                exact k_vret hx hb hr hlk hP hK hD hS d_Ru_move_177
theorem d_Ru_step_0 : decode b_Ru_step 0 = .ok (.aload_n 0, 1) := by decide +kernel
theorem d_Ru_step_1 : decode b_Ru_step 1 = .ok (.getfield 21, 3) := by decide +kernel
theorem d_Ru_step_4 : decode b_Ru_step 4 = .ok (.aload_n 0, 1) := by decide +kernel
theorem d_Ru_step_5 : decode b_Ru_step 5 = .ok (.getfield 62, 3) := by decide +kernel
theorem d_Ru_step_8 : decode b_Ru_step 8 = .ok (.aload_n 0, 1) := by decide +kernel
theorem d_Ru_step_9 : decode b_Ru_step 9 = .ok (.getfield 65, 3) := by decide +kernel
theorem d_Ru_step_12 : decode b_Ru_step 12 = .ok (.invokevirtual 82, 3) := by decide +kernel
theorem d_Ru_step_15 : decode b_Ru_step 15 = .ok (.istore_n 1, 1) := by decide +kernel
theorem d_Ru_step_16 : decode b_Ru_step 16 = .ok (.aload_n 0, 1) := by decide +kernel
theorem d_Ru_step_17 : decode b_Ru_step 17 = .ok (.getfield 21, 3) := by decide +kernel
theorem d_Ru_step_20 : decode b_Ru_step 20 = .ok (.aload_n 0, 1) := by decide +kernel
theorem d_Ru_step_21 : decode b_Ru_step 21 = .ok (.getfield 62, 3) := by decide +kernel
theorem d_Ru_step_24 : decode b_Ru_step 24 = .ok (.aload_n 0, 1) := by decide +kernel
theorem d_Ru_step_25 : decode b_Ru_step 25 = .ok (.getfield 65, 3) := by decide +kernel
theorem d_Ru_step_28 : decode b_Ru_step 28 = .ok (.invokevirtual 86, 3) := by decide +kernel
theorem d_Ru_step_31 : decode b_Ru_step 31 = .ok (.istore_n 2, 1) := by decide +kernel
theorem d_Ru_step_32 : decode b_Ru_step 32 = .ok (.aload_n 0, 1) := by decide +kernel
theorem d_Ru_step_33 : decode b_Ru_step 33 = .ok (.getfield 21, 3) := by decide +kernel
theorem d_Ru_step_36 : decode b_Ru_step 36 = .ok (.aload_n 0, 1) := by decide +kernel
theorem d_Ru_step_37 : decode b_Ru_step 37 = .ok (.getfield 62, 3) := by decide +kernel
theorem d_Ru_step_40 : decode b_Ru_step 40 = .ok (.aload_n 0, 1) := by decide +kernel
theorem d_Ru_step_41 : decode b_Ru_step 41 = .ok (.getfield 65, 3) := by decide +kernel
theorem d_Ru_step_44 : decode b_Ru_step 44 = .ok (.invokevirtual 89, 3) := by decide +kernel
theorem d_Ru_step_47 : decode b_Ru_step 47 = .ok (.istore_n 3, 1) := by decide +kernel
theorem d_Ru_step_48 : decode b_Ru_step 48 = .ok (.aload_n 0, 1) := by decide +kernel
theorem d_Ru_step_49 : decode b_Ru_step 49 = .ok (.getfield 21, 3) := by decide +kernel
theorem d_Ru_step_52 : decode b_Ru_step 52 = .ok (.aload_n 0, 1) := by decide +kernel
theorem d_Ru_step_53 : decode b_Ru_step 53 = .ok (.getfield 62, 3) := by decide +kernel
theorem d_Ru_step_56 : decode b_Ru_step 56 = .ok (.aload_n 0, 1) := by decide +kernel
theorem d_Ru_step_57 : decode b_Ru_step 57 = .ok (.getfield 65, 3) := by decide +kernel
theorem d_Ru_step_60 : decode b_Ru_step 60 = .ok (.invokevirtual 92, 3) := by decide +kernel
theorem d_Ru_step_63 : decode b_Ru_step 63 = .ok (.istore 4, 2) := by decide +kernel
theorem d_Ru_step_65 : decode b_Ru_step 65 = .ok (.aload_n 0, 1) := by decide +kernel
theorem d_Ru_step_66 : decode b_Ru_step 66 = .ok (.dup, 1) := by decide +kernel
theorem d_Ru_step_67 : decode b_Ru_step 67 = .ok (.getfield 50, 3) := by decide +kernel
theorem d_Ru_step_70 : decode b_Ru_step 70 = .ok (.iconst 1, 1) := by decide +kernel
theorem d_Ru_step_71 : decode b_Ru_step 71 = .ok (.iadd, 1) := by decide +kernel
theorem d_Ru_step_72 : decode b_Ru_step 72 = .ok (.putfield 50, 3) := by decide +kernel
theorem d_Ru_step_75 : decode b_Ru_step 75 = .ok (.aload_n 0, 1) := by decide +kernel
theorem d_Ru_step_76 : decode b_Ru_step 76 = .ok (.dup, 1) := by decide +kernel
theorem d_Ru_step_77 : decode b_Ru_step 77 = .ok (.getfield 65, 3) := by decide +kernel
theorem d_Ru_step_80 : decode b_Ru_step 80 = .ok (.iconst 1, 1) := by decide +kernel
theorem d_Ru_step_81 : decode b_Ru_step 81 = .ok (.iadd, 1) := by decide +kernel
theorem d_Ru_step_82 : decode b_Ru_step 82 = .ok (.putfield 65, 3) := by decide +kernel
theorem d_Ru_step_85 : decode b_Ru_step 85 = .ok (.iload_n 1, 1) := by decide +kernel
theorem d_Ru_step_86 : decode b_Ru_step 86 = .ok (.bipush 6, 2) := by decide +kernel
theorem d_Ru_step_88 : decode b_Ru_step 88 = .ok (.if_icmp .gt 15, 3) := by decide +kernel
theorem d_Ru_step_91 : decode b_Ru_step 91 = .ok (.aload_n 0, 1) := by decide +kernel
theorem d_Ru_step_92 : decode b_Ru_step 92 = .ok (.iload_n 1, 1) := by decide +kernel
theorem d_Ru_step_93 : decode b_Ru_step 93 = .ok (.iload_n 2, 1) := by decide +kernel
theorem d_Ru_step_94 : decode b_Ru_step 94 = .ok (.iload_n 3, 1) := by decide +kernel
theorem d_Ru_step_95 : decode b_Ru_step 95 = .ok (.iload 4, 2) := by decide +kernel
theorem d_Ru_step_97 : decode b_Ru_step 97 = .ok (.invokevirtual 95, 3) := by decide +kernel
theorem d_Ru_step_100 : decode b_Ru_step 100 = .ok (.goto 52, 3) := by decide +kernel
theorem d_Ru_step_103 : decode b_Ru_step 103 = .ok (.iload_n 1, 1) := by decide +kernel
theorem d_Ru_step_104 : decode b_Ru_step 104 = .ok (.bipush 9, 2) := by decide +kernel
theorem d_Ru_step_106 : decode b_Ru_step 106 = .ok (.if_icmp .gt 12, 3) := by decide +kernel
theorem d_Ru_step_109 : decode b_Ru_step 109 = .ok (.aload_n 0, 1) := by decide +kernel
theorem d_Ru_step_110 : decode b_Ru_step 110 = .ok (.iload_n 1, 1) := by decide +kernel
theorem d_Ru_step_111 : decode b_Ru_step 111 = .ok (.iload_n 2, 1) := by decide +kernel
theorem d_Ru_step_112 : decode b_Ru_step 112 = .ok (.invokevirtual 99, 3) := by decide +kernel
theorem d_Ru_step_115 : decode b_Ru_step 115 = .ok (.goto 37, 3) := by decide +kernel
theorem d_Ru_step_118 : decode b_Ru_step 118 = .ok (.iload_n 1, 1) := by decide +kernel
theorem d_Ru_step_119 : decode b_Ru_step 119 = .ok (.bipush 17, 2) := by decide +kernel
theorem d_Ru_step_121 : decode b_Ru_step 121 = .ok (.if_icmp .ne 24, 3) := by decide +kernel
theorem d_Ru_step_124 : decode b_Ru_step 124 = .ok (.aload_n 0, 1) := by decide +kernel
theorem d_Ru_step_125 : decode b_Ru_step 125 = .ok (.getfield 34, 3) := by decide +kernel
theorem d_Ru_step_128 : decode b_Ru_step 128 = .ok (.iload_n 2, 1) := by decide +kernel
theorem d_Ru_step_129 : decode b_Ru_step 129 = .ok (.aload_n 0, 1) := by decide +kernel
theorem d_Ru_step_130 : decode b_Ru_step 130 = .ok (.getfield 68, 3) := by decide +kernel
theorem d_Ru_step_133 : decode b_Ru_step 133 = .ok (.iload_n 3, 1) := by decide +kernel
theorem d_Ru_step_134 : decode b_Ru_step 134 = .ok (.iadd, 1) := by decide +kernel
theorem d_Ru_step_135 : decode b_Ru_step 135 = .ok (.aload_n 0, 1) := by decide +kernel
theorem d_Ru_step_136 : decode b_Ru_step 136 = .ok (.getfield 38, 3) := by decide +kernel
theorem d_Ru_step_139 : decode b_Ru_step 139 = .ok (.invokevirtual 103, 3) := by decide +kernel
theorem d_Ru_step_142 : decode b_Ru_step 142 = .ok (.goto 10, 3) := by decide +kernel
theorem d_Ru_step_145 : decode b_Ru_step 145 = .ok (.aload_n 0, 1) := by decide +kernel
theorem d_Ru_step_146 : decode b_Ru_step 146 = .ok (.iload_n 1, 1) := by decide +kernel
theorem d_Ru_step_147 : decode b_Ru_step 147 = .ok (.iload_n 2, 1) := by decide +kernel
theorem d_Ru_step_148 : decode b_Ru_step 148 = .ok (.iload_n 3, 1) := by decide +kernel
theorem d_Ru_step_149 : decode b_Ru_step 149 = .ok (.invokevirtual 107, 3) := by decide +kernel
theorem d_Ru_step_152 : decode b_Ru_step 152 = .ok (.return_, 1) := by decide +kernel
def r_Ru_step (n : Nat) (ko : T_ko) (me : T_me) (ru : T_ru)  : Option (T_me × T_ru) := (r_Co_numberAt n ko (ru_unit ru) (ru_next ru)).bind (fun q1 => (r_Co_aAt n ko (ru_unit ru) (ru_next ru)).bind (fun q2 => (r_Co_bAt n ko (ru_unit ru) (ru_next ru)).bind (fun q3 => (r_Co_cAt n ko (ru_unit ru) (ru_next ru)).bind (fun q4 => if (6 : Int32) < q1 then if (9 : Int32) < q1 then if q1 = (17 : Int32) then (r_Bl_run n me q2 ((ru_base (ru_next_s (ru_steps_s ru ((ru_steps ru) + (1 : Int32))) ((ru_next (ru_steps_s ru ((ru_steps ru) + (1 : Int32)))) + (1 : Int32)))) + q3) (ru_now (ru_next_s (ru_steps_s ru ((ru_steps ru) + (1 : Int32))) ((ru_next (ru_steps_s ru ((ru_steps ru) + (1 : Int32)))) + (1 : Int32))))).bind (fun q9 => some (q9, (ru_next_s (ru_steps_s ru ((ru_steps ru) + (1 : Int32))) ((ru_next (ru_steps_s ru ((ru_steps ru) + (1 : Int32)))) + (1 : Int32))))) else (r_Ru_go n ko me (ru_next_s (ru_steps_s ru ((ru_steps ru) + (1 : Int32))) ((ru_next (ru_steps_s ru ((ru_steps ru) + (1 : Int32)))) + (1 : Int32))) q1 q2 q3).bind (fun q8 => some (q8.1, q8.2)) else (r_Ru_reckon n me (ru_next_s (ru_steps_s ru ((ru_steps ru) + (1 : Int32))) ((ru_next (ru_steps_s ru ((ru_steps ru) + (1 : Int32)))) + (1 : Int32))) q1 q2).bind (fun q10 => some (q10.1, q10.2)) else (r_Ru_move n ko me (ru_next_s (ru_steps_s ru ((ru_steps ru) + (1 : Int32))) ((ru_next (ru_steps_s ru ((ru_steps ru) + (1 : Int32)))) + (1 : Int32))) q1 q2 q3 q4).bind (fun q11 => some (q11.1, q11.2))))))
def rm_Ru_step : Jvm.Room := { frames := 5, cells := 0, slots := 0, locals := 124 }
set_option maxHeartbeats 4000000 in
set_option maxRecDepth 100000 in
theorem c_Ru_step {l : Launch} {D : va_G} {cI cL : ClassId} {ad : Nat → Nat} {ma : T_ma} {ko : T_ko} {sh : T_sh} {lo : T_lo} {de : T_de} {wa : T_wa} {me : T_me} {ru : T_ru} {ws0 : va_W} {sz n : Nat}  {me9 : T_me} {ru9 : T_ru} (hw : ws0 = (wX cI cL ad ma ko sh lo de wa me ru)) (h : r_Ru_step n ko me ru  = some (me9, ru9)) : Met l y_Ru_step (Cond.code y_Ru_step b_Ru_step 5 none :: TB) rm_Ru_step (PreW D clX (tyX cI cL) ws0 [.ref (ad 22)] sz) (PstV D clX (tyX cI cL) ws0 (wX cI cL ad ma ko sh lo de wa (me9) (ru9)) sz) 0 0 (va_A ws0 sz) := by
  refine k_met (by decide) (Nat.le_of_ble_eq_true rfl) ?_
  intro p e s m below meth c ls hx hb hr hml hts hown hlk hnm hsz hP hK hD hA hz hl
  have hP : va_P D clX (wX cI cL ad ma ko sh lo de wa me ru) s.heap := by rw [← hw]; exact hP
  have hD : va_D (va_A ws0 sz) (wX cI cL ad ma ko sh lo de wa me ru) := by rw [← hw]; exact hD
  have hS : va_S (va_A ws0 sz) s.heap s.heap [] := va_S.rf
  have hl : lv_has ls 5 [(0, .ref (ad 22))] := hl
  generalize hQ : MQ below (PstV D clX (tyX cI cL) ws0 (wX cI cL ad ma ko sh lo de wa (me9) (ru9)) sz) [.ref (ad 22)].toArray s 0 0 (va_A ws0 sz) = Q
  unfold r_Ru_step at h
  refine lv_aload_n hx hb d_Ru_step_0 rfl (lv_at hl 0 rfl) ?_
  refine rd_Ru_code hx hb hts hown hK hP lk_182 d_Ru_step_1 ?_
  refine lv_aload_n hx hb d_Ru_step_4 rfl (lv_at hl 0 rfl) ?_
  refine rd_Ru_unit hx hb hts hown hK hP lk_189 (v := (ru_unit ru)) rfl d_Ru_step_5 ?_
  refine lv_aload_n hx hb d_Ru_step_8 rfl (lv_at hl 0 rfl) ?_
  refine rd_Ru_next hx hb hts hown hK hP lk_190 (v := (ru_next ru)) rfl d_Ru_step_9 ?_
  obtain ⟨q1, hq1, h⟩ := Option.bind_eq_some_iff.mp h
  refine k_I (k_runVN ⟨hx, hb, hml, hown, hts⟩ (c_Co_numberAt rfl hq1) ok_Co_numberAt is_Co_numberAt lk_536 rfl rfl ⟨by decide, by decide⟩ hP hK hD hS hA hz (ci := 1) (q0 := 1) rfl rfl ob_Co rfl hl.1 rfl (Nat.le_of_ble_eq_true rfl) d_Ru_step_12 ⟨Nat.zero_le _, Nat.zero_le _⟩) hD hS hA (fun H locs hP hD hS => ?_)
  refine lv_istore_n (lv' := [(1, .int q1), (0, .ref (ad 22))]) hx hb d_Ru_step_15 rfl hl (by decide) rfl (fun ls hl => ?_)
  refine lv_aload_n hx hb d_Ru_step_16 rfl (lv_at hl 1 rfl) ?_
  refine rd_Ru_code hx hb hts hown hK hP lk_182 d_Ru_step_17 ?_
  refine lv_aload_n hx hb d_Ru_step_20 rfl (lv_at hl 1 rfl) ?_
  refine rd_Ru_unit hx hb hts hown hK hP lk_189 (v := (ru_unit ru)) rfl d_Ru_step_21 ?_
  refine lv_aload_n hx hb d_Ru_step_24 rfl (lv_at hl 1 rfl) ?_
  refine rd_Ru_next hx hb hts hown hK hP lk_190 (v := (ru_next ru)) rfl d_Ru_step_25 ?_
  obtain ⟨q2, hq2, h⟩ := Option.bind_eq_some_iff.mp h
  refine k_I (k_runVN ⟨hx, hb, hml, hown, hts⟩ (c_Co_aAt rfl hq2) ok_Co_aAt is_Co_aAt lk_537 rfl rfl ⟨by decide, by decide⟩ hP hK hD hS hA hz (ci := 1) (q0 := 1) rfl rfl ob_Co rfl hl.1 rfl (Nat.le_of_ble_eq_true rfl) d_Ru_step_28 ⟨Nat.zero_le _, Nat.zero_le _⟩) hD hS hA (fun H locs hP hD hS => ?_)
  refine lv_istore_n (lv' := [(2, .int q2), (1, .int q1), (0, .ref (ad 22))]) hx hb d_Ru_step_31 rfl hl (by decide) rfl (fun ls hl => ?_)
  refine lv_aload_n hx hb d_Ru_step_32 rfl (lv_at hl 2 rfl) ?_
  refine rd_Ru_code hx hb hts hown hK hP lk_182 d_Ru_step_33 ?_
  refine lv_aload_n hx hb d_Ru_step_36 rfl (lv_at hl 2 rfl) ?_
  refine rd_Ru_unit hx hb hts hown hK hP lk_189 (v := (ru_unit ru)) rfl d_Ru_step_37 ?_
  refine lv_aload_n hx hb d_Ru_step_40 rfl (lv_at hl 2 rfl) ?_
  refine rd_Ru_next hx hb hts hown hK hP lk_190 (v := (ru_next ru)) rfl d_Ru_step_41 ?_
  obtain ⟨q3, hq3, h⟩ := Option.bind_eq_some_iff.mp h
  refine k_I (k_runVN ⟨hx, hb, hml, hown, hts⟩ (c_Co_bAt rfl hq3) ok_Co_bAt is_Co_bAt lk_538 rfl rfl ⟨by decide, by decide⟩ hP hK hD hS hA hz (ci := 1) (q0 := 1) rfl rfl ob_Co rfl hl.1 rfl (Nat.le_of_ble_eq_true rfl) d_Ru_step_44 ⟨Nat.zero_le _, Nat.zero_le _⟩) hD hS hA (fun H locs hP hD hS => ?_)
  refine lv_istore_n (lv' := [(3, .int q3), (2, .int q2), (1, .int q1), (0, .ref (ad 22))]) hx hb d_Ru_step_47 rfl hl (by decide) rfl (fun ls hl => ?_)
  refine lv_aload_n hx hb d_Ru_step_48 rfl (lv_at hl 3 rfl) ?_
  refine rd_Ru_code hx hb hts hown hK hP lk_182 d_Ru_step_49 ?_
  refine lv_aload_n hx hb d_Ru_step_52 rfl (lv_at hl 3 rfl) ?_
  refine rd_Ru_unit hx hb hts hown hK hP lk_189 (v := (ru_unit ru)) rfl d_Ru_step_53 ?_
  refine lv_aload_n hx hb d_Ru_step_56 rfl (lv_at hl 3 rfl) ?_
  refine rd_Ru_next hx hb hts hown hK hP lk_190 (v := (ru_next ru)) rfl d_Ru_step_57 ?_
  obtain ⟨q4, hq4, h⟩ := Option.bind_eq_some_iff.mp h
  refine k_I (k_runVN ⟨hx, hb, hml, hown, hts⟩ (c_Co_cAt rfl hq4) ok_Co_cAt is_Co_cAt lk_539 rfl rfl ⟨by decide, by decide⟩ hP hK hD hS hA hz (ci := 1) (q0 := 1) rfl rfl ob_Co rfl hl.1 rfl (Nat.le_of_ble_eq_true rfl) d_Ru_step_60 ⟨Nat.zero_le _, Nat.zero_le _⟩) hD hS hA (fun H locs hP hD hS => ?_)
  refine lv_istore (lv' := [(4, .int q4), (3, .int q3), (2, .int q2), (1, .int q1), (0, .ref (ad 22))]) hx hb d_Ru_step_63 hl (by decide) rfl (fun ls hl => ?_)
  refine lv_aload_n hx hb d_Ru_step_65 rfl (lv_at hl 4 rfl) ?_
  refine lv_dup hx hb d_Ru_step_66 rfl ?_
  refine rd_Ru_steps hx hb hts hown hK hP lk_192 (v := (ru_steps ru)) rfl d_Ru_step_67 ?_
  refine lv_iconst (v := 1) hx hb d_Ru_step_70 (by decide) ?_
  refine lv_iadd hx hb d_Ru_step_71 ?_
  refine wr_Ru_steps hx hb hts hown hK hP hD hS lk_192 d_Ru_step_72 (fun H locs hP hD hS => ?_)
  refine lv_aload_n hx hb d_Ru_step_75 rfl (lv_at hl 4 rfl) ?_
  refine lv_dup hx hb d_Ru_step_76 rfl ?_
  refine rd_Ru_next hx hb hts hown hK hP lk_190 (v := (ru_next (ru_steps_s ru ((ru_steps ru) + (1 : Int32))))) rfl d_Ru_step_77 ?_
  refine lv_iconst (v := 1) hx hb d_Ru_step_80 (by decide) ?_
  refine lv_iadd hx hb d_Ru_step_81 ?_
  refine wr_Ru_next hx hb hts hown hK hP hD hS lk_190 d_Ru_step_82 (fun H locs hP hD hS => ?_)
  refine lv_iload_n hx hb d_Ru_step_85 rfl (lv_at hl 3 rfl) ?_
  refine lv_bipush (v := 6) hx hb d_Ru_step_86 (by decide) ?_
  refine lv_icmp_gt (tgt := 103) hx hb d_Ru_step_88 (by decide) (fun c5 => ?_) (fun c5 => ?_)
  · rw [if_pos c5] at h
    refine lv_iload_n hx hb d_Ru_step_103 rfl (lv_at hl 3 rfl) ?_
    refine lv_bipush (v := 9) hx hb d_Ru_step_104 (by decide) ?_
    refine lv_icmp_gt (tgt := 118) hx hb d_Ru_step_106 (by decide) (fun c6 => ?_) (fun c6 => ?_)
    · rw [if_pos c6] at h
      refine lv_iload_n hx hb d_Ru_step_118 rfl (lv_at hl 3 rfl) ?_
      refine lv_bipush (v := 17) hx hb d_Ru_step_119 (by decide) ?_
      refine lv_icmp_ne (tgt := 145) hx hb d_Ru_step_121 (by decide) (fun c7 => ?_) (fun c7 => ?_)
      · rw [if_neg c7] at h
        refine lv_aload_n hx hb d_Ru_step_145 rfl (lv_at hl 4 rfl) ?_
        refine lv_iload_n hx hb d_Ru_step_146 rfl (lv_at hl 3 rfl) ?_
        refine lv_iload_n hx hb d_Ru_step_147 rfl (lv_at hl 2 rfl) ?_
        refine lv_iload_n hx hb d_Ru_step_148 rfl (lv_at hl 1 rfl) ?_
        obtain ⟨q8, hq8, h⟩ := Option.bind_eq_some_iff.mp h
        refine k_V (k_runV ⟨hx, hb, hml, hown, hts⟩ (c_Ru_go rfl hq8) ok_Ru_go is_Ru_go lk_639 rfl rfl ⟨by decide, by decide⟩ hP hK hD hS hA hz (ci := 7) (q0 := 22) rfl rfl ob_Ru rfl hl.1 rfl (Nat.le_of_ble_eq_true rfl) d_Ru_step_149 ⟨Nat.zero_le _, Nat.zero_le _⟩) hD hS hA (fun H locs hP hD hS => ?_)
        cases h
        subst hQ
        exact k_vret hx hb hr hlk hP hK hD hS d_Ru_step_152
      · rw [if_pos c7] at h
        refine lv_aload_n hx hb d_Ru_step_124 rfl (lv_at hl 4 rfl) ?_
        refine rd_Ru_blocks hx hb hts hown hK hP lk_184 d_Ru_step_125 ?_
        refine lv_iload_n hx hb d_Ru_step_128 rfl (lv_at hl 2 rfl) ?_
        refine lv_aload_n hx hb d_Ru_step_129 rfl (lv_at hl 4 rfl) ?_
        refine rd_Ru_base hx hb hts hown hK hP lk_191 (v := (ru_base (ru_next_s (ru_steps_s ru ((ru_steps ru) + (1 : Int32))) ((ru_next (ru_steps_s ru ((ru_steps ru) + (1 : Int32)))) + (1 : Int32))))) rfl d_Ru_step_130 ?_
        refine lv_iload_n hx hb d_Ru_step_133 rfl (lv_at hl 1 rfl) ?_
        refine lv_iadd hx hb d_Ru_step_134 ?_
        refine lv_aload_n hx hb d_Ru_step_135 rfl (lv_at hl 4 rfl) ?_
        refine rd_Ru_now hx hb hts hown hK hP lk_195 (v := (ru_now (ru_next_s (ru_steps_s ru ((ru_steps ru) + (1 : Int32))) ((ru_next (ru_steps_s ru ((ru_steps ru) + (1 : Int32)))) + (1 : Int32))))) rfl d_Ru_step_136 ?_
        obtain ⟨q9, hq9, h⟩ := Option.bind_eq_some_iff.mp h
        refine k_V (k_runVN ⟨hx, hb, hml, hown, hts⟩ (c_Bl_run rfl hq9) ok_Bl_run is_Bl_run lk_601 rfl rfl ⟨by decide, by decide⟩ hP hK hD hS hA hz (ci := 8) (q0 := 26) rfl rfl ob_Bl rfl hl.1 rfl (Nat.le_of_ble_eq_true rfl) d_Ru_step_139 ⟨Nat.zero_le _, Nat.zero_le _⟩) hD hS hA (fun H locs hP hD hS => ?_)
        refine lv_goto (tgt := 152) hx hb d_Ru_step_142 (by decide) ?_
        cases h
        subst hQ
        exact k_vret hx hb hr hlk hP hK hD hS d_Ru_step_152
    · rw [if_neg c6] at h
      refine lv_aload_n hx hb d_Ru_step_109 rfl (lv_at hl 4 rfl) ?_
      refine lv_iload_n hx hb d_Ru_step_110 rfl (lv_at hl 3 rfl) ?_
      refine lv_iload_n hx hb d_Ru_step_111 rfl (lv_at hl 2 rfl) ?_
      obtain ⟨q10, hq10, h⟩ := Option.bind_eq_some_iff.mp h
      refine k_V (k_runV ⟨hx, hb, hml, hown, hts⟩ (c_Ru_reckon rfl hq10) ok_Ru_reckon is_Ru_reckon lk_570 rfl rfl ⟨by decide, by decide⟩ hP hK hD hS hA hz (ci := 7) (q0 := 22) rfl rfl ob_Ru rfl hl.1 rfl (Nat.le_of_ble_eq_true rfl) d_Ru_step_112 ⟨Nat.zero_le _, Nat.zero_le _⟩) hD hS hA (fun H locs hP hD hS => ?_)
      refine lv_goto (tgt := 152) hx hb d_Ru_step_115 (by decide) ?_
      cases h
      subst hQ
      exact k_vret hx hb hr hlk hP hK hD hS d_Ru_step_152
  · rw [if_neg c5] at h
    refine lv_aload_n hx hb d_Ru_step_91 rfl (lv_at hl 4 rfl) ?_
    refine lv_iload_n hx hb d_Ru_step_92 rfl (lv_at hl 3 rfl) ?_
    refine lv_iload_n hx hb d_Ru_step_93 rfl (lv_at hl 2 rfl) ?_
    refine lv_iload_n hx hb d_Ru_step_94 rfl (lv_at hl 1 rfl) ?_
    refine lv_iload hx hb d_Ru_step_95 (lv_at hl 0 rfl) ?_
    obtain ⟨q11, hq11, h⟩ := Option.bind_eq_some_iff.mp h
    refine k_V (k_runV ⟨hx, hb, hml, hown, hts⟩ (c_Ru_move rfl hq11) ok_Ru_move is_Ru_move lk_540 rfl rfl ⟨by decide, by decide⟩ hP hK hD hS hA hz (ci := 7) (q0 := 22) rfl rfl ob_Ru rfl hl.1 rfl (Nat.le_of_ble_eq_true rfl) d_Ru_step_97 ⟨Nat.zero_le _, Nat.zero_le _⟩) hD hS hA (fun H locs hP hD hS => ?_)
    refine lv_goto (tgt := 152) hx hb d_Ru_step_100 (by decide) ?_
    cases h
    subst hQ
    exact k_vret hx hb hr hlk hP hK hD hS d_Ru_step_152
theorem d_Ru_run_0 : decode b_Ru_run 0 = .ok (.aload_n 0, 1) := by decide +kernel
theorem d_Ru_run_1 : decode b_Ru_run 1 = .ok (.iload_n 1, 1) := by decide +kernel
theorem d_Ru_run_2 : decode b_Ru_run 2 = .ok (.putfield 38, 3) := by decide +kernel
theorem d_Ru_run_5 : decode b_Ru_run 5 = .ok (.aload_n 0, 1) := by decide +kernel
theorem d_Ru_run_6 : decode b_Ru_run 6 = .ok (.getfield 25, 3) := by decide +kernel
theorem d_Ru_run_9 : decode b_Ru_run 9 = .ok (.invokevirtual 42, 3) := by decide +kernel
theorem d_Ru_run_12 : decode b_Ru_run 12 = .ok (.aload_n 0, 1) := by decide +kernel
theorem d_Ru_run_13 : decode b_Ru_run 13 = .ok (.iconst 0, 1) := by decide +kernel
theorem d_Ru_run_14 : decode b_Ru_run 14 = .ok (.putfield 47, 3) := by decide +kernel
theorem d_Ru_run_17 : decode b_Ru_run 17 = .ok (.aload_n 0, 1) := by decide +kernel
theorem d_Ru_run_18 : decode b_Ru_run 18 = .ok (.iconst 0, 1) := by decide +kernel
theorem d_Ru_run_19 : decode b_Ru_run 19 = .ok (.putfield 50, 3) := by decide +kernel
theorem d_Ru_run_22 : decode b_Ru_run 22 = .ok (.aload_n 0, 1) := by decide +kernel
theorem d_Ru_run_23 : decode b_Ru_run 23 = .ok (.iconst 0, 1) := by decide +kernel
theorem d_Ru_run_24 : decode b_Ru_run 24 = .ok (.putfield 53, 3) := by decide +kernel
theorem d_Ru_run_27 : decode b_Ru_run 27 = .ok (.aload_n 0, 1) := by decide +kernel
theorem d_Ru_run_28 : decode b_Ru_run 28 = .ok (.aload_n 0, 1) := by decide +kernel
theorem d_Ru_run_29 : decode b_Ru_run 29 = .ok (.getfield 21, 3) := by decide +kernel
theorem d_Ru_run_32 : decode b_Ru_run 32 = .ok (.invokevirtual 56, 3) := by decide +kernel
theorem d_Ru_run_35 : decode b_Ru_run 35 = .ok (.iconst 1, 1) := by decide +kernel
theorem d_Ru_run_36 : decode b_Ru_run 36 = .ok (.isub, 1) := by decide +kernel
theorem d_Ru_run_37 : decode b_Ru_run 37 = .ok (.putfield 62, 3) := by decide +kernel
theorem d_Ru_run_40 : decode b_Ru_run 40 = .ok (.aload_n 0, 1) := by decide +kernel
theorem d_Ru_run_41 : decode b_Ru_run 41 = .ok (.iconst 0, 1) := by decide +kernel
theorem d_Ru_run_42 : decode b_Ru_run 42 = .ok (.putfield 65, 3) := by decide +kernel
theorem d_Ru_run_45 : decode b_Ru_run 45 = .ok (.aload_n 0, 1) := by decide +kernel
theorem d_Ru_run_46 : decode b_Ru_run 46 = .ok (.iconst 0, 1) := by decide +kernel
theorem d_Ru_run_47 : decode b_Ru_run 47 = .ok (.putfield 68, 3) := by decide +kernel
theorem d_Ru_run_50 : decode b_Ru_run 50 = .ok (.iconst 0, 1) := by decide +kernel
theorem d_Ru_run_51 : decode b_Ru_run 51 = .ok (.istore_n 2, 1) := by decide +kernel
theorem d_Ru_run_52 : decode b_Ru_run 52 = .ok (.iload_n 2, 1) := by decide +kernel
theorem d_Ru_run_53 : decode b_Ru_run 53 = .ok (.ldc 71, 2) := by decide +kernel
theorem d_Ru_run_55 : decode b_Ru_run 55 = .ok (.if_icmp .ge 52, 3) := by decide +kernel
theorem d_Ru_run_58 : decode b_Ru_run 58 = .ok (.aload_n 0, 1) := by decide +kernel
theorem d_Ru_run_59 : decode b_Ru_run 59 = .ok (.getfield 53, 3) := by decide +kernel
theorem d_Ru_run_62 : decode b_Ru_run 62 = .ok (.ifCond .ne 45, 3) := by decide +kernel
theorem d_Ru_run_65 : decode b_Ru_run 65 = .ok (.aload_n 0, 1) := by decide +kernel
theorem d_Ru_run_66 : decode b_Ru_run 66 = .ok (.getfield 65, 3) := by decide +kernel
theorem d_Ru_run_69 : decode b_Ru_run 69 = .ok (.aload_n 0, 1) := by decide +kernel
theorem d_Ru_run_70 : decode b_Ru_run 70 = .ok (.getfield 21, 3) := by decide +kernel
theorem d_Ru_run_73 : decode b_Ru_run 73 = .ok (.aload_n 0, 1) := by decide +kernel
theorem d_Ru_run_74 : decode b_Ru_run 74 = .ok (.getfield 62, 3) := by decide +kernel
theorem d_Ru_run_77 : decode b_Ru_run 77 = .ok (.invokevirtual 72, 3) := by decide +kernel
theorem d_Ru_run_80 : decode b_Ru_run 80 = .ok (.if_icmp .ge 10, 3) := by decide +kernel
theorem d_Ru_run_83 : decode b_Ru_run 83 = .ok (.aload_n 0, 1) := by decide +kernel
theorem d_Ru_run_84 : decode b_Ru_run 84 = .ok (.invokevirtual 76, 3) := by decide +kernel
theorem d_Ru_run_87 : decode b_Ru_run 87 = .ok (.goto 14, 3) := by decide +kernel
theorem d_Ru_run_90 : decode b_Ru_run 90 = .ok (.aload_n 0, 1) := by decide +kernel
theorem d_Ru_run_91 : decode b_Ru_run 91 = .ok (.getfield 47, 3) := by decide +kernel
theorem d_Ru_run_94 : decode b_Ru_run 94 = .ok (.ifCond .le 13, 3) := by decide +kernel
theorem d_Ru_run_97 : decode b_Ru_run 97 = .ok (.aload_n 0, 1) := by decide +kernel
theorem d_Ru_run_98 : decode b_Ru_run 98 = .ok (.invokevirtual 79, 3) := by decide +kernel
theorem d_Ru_run_101 : decode b_Ru_run 101 = .ok (.iinc 2 1, 3) := by decide +kernel
theorem d_Ru_run_104 : decode b_Ru_run 104 = .ok (.goto (-52), 3) := by decide +kernel
theorem d_Ru_run_107 : decode b_Ru_run 107 = .ok (.aload_n 0, 1) := by decide +kernel
theorem d_Ru_run_108 : decode b_Ru_run 108 = .ok (.getfield 53, 3) := by decide +kernel
theorem d_Ru_run_111 : decode b_Ru_run 111 = .ok (.ifCond .eq 10, 3) := by decide +kernel
theorem d_Ru_run_114 : decode b_Ru_run 114 = .ok (.aload_n 0, 1) := by decide +kernel
theorem d_Ru_run_115 : decode b_Ru_run 115 = .ok (.getfield 53, 3) := by decide +kernel
theorem d_Ru_run_118 : decode b_Ru_run 118 = .ok (.goto 7, 3) := by decide +kernel
theorem d_Ru_run_121 : decode b_Ru_run 121 = .ok (.aload_n 0, 1) := by decide +kernel
theorem d_Ru_run_122 : decode b_Ru_run 122 = .ok (.getfield 50, 3) := by decide +kernel
theorem d_Ru_run_125 : decode b_Ru_run 125 = .ok (.ireturn, 1) := by decide +kernel
def r_Ru_run_j107 (n : Nat) (ko : T_ko)  (me : T_me) (ru : T_ru) : Option (Int32 × T_me × T_ru) := if (ru_fault ru) = 0 then some ((ru_steps ru), me, ru) else some ((ru_fault ru), me, ru)
def r_Ru_run_l52 (n : Nat) (ko : T_ko)  : Nat → T_me → T_ru → Int32 → Option (Int32 × T_me × T_ru)
  | 0, _, _, _ => none
  | f + 1, me, ru, x2 => if (40002 : Int32) ≤ x2 then r_Ru_run_j107 n ko me ru else if (ru_fault ru) = 0 then (r_Co_sizeOf n ko (ru_unit ru)).bind (fun q4 => if q4 ≤ (ru_next ru) then if (ru_waiting ru) ≤ 0 then r_Ru_run_j107 n ko me ru else (r_Ru_goBack n ru).bind (fun q7 => (r_Ru_run_l52 n ko f) me q7 (x2 + 1)) else (r_Ru_step n ko me ru).bind (fun q8 => (r_Ru_run_l52 n ko f) q8.1 q8.2 (x2 + 1))) else r_Ru_run_j107 n ko me ru
def r_Ru_run (n : Nat) (ko : T_ko) (me : T_me) (ru : T_ru) (a0 : Int32) : Option (Int32 × T_me × T_ru) := (r_Me_emptyStack n me).bind (fun q9 => (r_Co_unitCount n ko).bind (fun q10 => r_Ru_run_l52 n ko n q9 ((ru_base_s (ru_next_s (ru_unit_s (ru_fault_s (ru_steps_s (ru_waiting_s (ru_now_s ru a0) (0 : Int32)) (0 : Int32)) (0 : Int32)) (q10 - (1 : Int32))) (0 : Int32)) (0 : Int32))) (0 : Int32)))
def rm_Ru_run : Jvm.Room := { frames := 6, cells := 0, slots := 0, locals := 148 }
set_option maxHeartbeats 4000000 in
set_option maxRecDepth 100000 in
theorem c_Ru_run {l : Launch} {D : va_G} {cI cL : ClassId} {ad : Nat → Nat} {ma : T_ma} {ko : T_ko} {sh : T_sh} {lo : T_lo} {de : T_de} {wa : T_wa} {me : T_me} {ru : T_ru} {ws0 : va_W} {sz n : Nat} {a0 : Int32} {r9 : Int32} {me9 : T_me} {ru9 : T_ru} (hw : ws0 = (wX cI cL ad ma ko sh lo de wa me ru)) (h : r_Ru_run n ko me ru a0 = some (r9, me9, ru9)) : Met l y_Ru_run (Cond.code y_Ru_run b_Ru_run 3 (some .int) :: TB) rm_Ru_run (PreW D clX (tyX cI cL) ws0 [.ref (ad 22), .int a0] sz) (PstI D clX (tyX cI cL) ws0 (wX cI cL ad ma ko sh lo de wa (me9) (ru9)) sz r9) 0 0 (va_A ws0 sz) := by
  refine k_met (by decide) (Nat.le_of_ble_eq_true rfl) ?_
  intro p e s m below meth c ls hx hb hr hml hts hown hlk hnm hsz hP hK hD hA hz hl
  have hP : va_P D clX (wX cI cL ad ma ko sh lo de wa me ru) s.heap := by rw [← hw]; exact hP
  have hD : va_D (va_A ws0 sz) (wX cI cL ad ma ko sh lo de wa me ru) := by rw [← hw]; exact hD
  have hS : va_S (va_A ws0 sz) s.heap s.heap [] := va_S.rf
  have hl : lv_has ls 3 [(0, .ref (ad 22)), (1, .int a0)] := hl
  generalize hQ : MQ below (PstI D clX (tyX cI cL) ws0 (wX cI cL ad ma ko sh lo de wa (me9) (ru9)) sz r9) [.ref (ad 22), .int a0].toArray s 0 0 (va_A ws0 sz) = Q
  have J107 : ∀ (me : T_me) (ru : T_ru) (H : Heap) (locs : List Loc) (ls : Array Slot), r_Ru_run_j107 n ko me ru = some (r9, me9, ru9) → va_P D clX (wX cI cL ad ma ko sh lo de wa me ru) H → va_D (va_A ws0 sz) (wX cI cL ad ma ko sh lo de wa me ru) → va_S (va_A ws0 sz) s.heap H locs → lv_has ls 3 [(0, .ref (ad 22))] → W p l e rm_Ru_run s m [.ref (ad 22), .int a0].toArray below meth c H locs 0 0 Q (F0 m 107 ls []) := by
    intro me ru H locs ls h hP hD hS hl
    unfold r_Ru_run_j107 at h
    refine lv_aload_n hx hb d_Ru_run_107 rfl (lv_at hl 0 rfl) ?_
    refine rd_Ru_fault hx hb hts hown hK hP lk_194 (v := (ru_fault ru)) rfl d_Ru_run_108 ?_
    refine lv_if_eq (tgt := 121) hx hb d_Ru_run_111 (by decide) (fun c1 => ?_) (fun c1 => ?_)
    · rw [if_pos c1] at h
      refine lv_aload_n hx hb d_Ru_run_121 rfl (lv_at hl 0 rfl) ?_
      refine rd_Ru_steps hx hb hts hown hK hP lk_192 (v := (ru_steps ru)) rfl d_Ru_run_122 ?_
      cases h
      subst hQ
      exact k_iret hx hb hr hlk hP hK hD hS d_Ru_run_125
    · rw [if_neg c1] at h
      refine lv_aload_n hx hb d_Ru_run_114 rfl (lv_at hl 0 rfl) ?_
      refine rd_Ru_fault hx hb hts hown hK hP lk_194 (v := (ru_fault ru)) rfl d_Ru_run_115 ?_
      refine lv_goto (tgt := 125) hx hb d_Ru_run_118 (by decide) ?_
      cases h
      subst hQ
      exact k_iret hx hb hr hlk hP hK hD hS d_Ru_run_125
  have L52 : ∀ (f52 : Nat), ∀ (me : T_me) (ru : T_ru) (x2 : Int32) (H : Heap) (locs : List Loc) (ls : Array Slot), r_Ru_run_l52 n ko f52 me ru x2 = some (r9, me9, ru9) → va_P D clX (wX cI cL ad ma ko sh lo de wa me ru) H → va_D (va_A ws0 sz) (wX cI cL ad ma ko sh lo de wa me ru) → va_S (va_A ws0 sz) s.heap H locs → lv_has ls 3 [(0, .ref (ad 22)), (2, .int x2)] → W p l e rm_Ru_run s m [.ref (ad 22), .int a0].toArray below meth c H locs 0 0 Q (F0 m 52 ls []) := by
    intro f52
    induction f52 with
    | zero =>
      intro me ru x2 H locs ls h hP hD hS hl
      exact absurd h (by intro h; cases h)
    | succ f52 ih52 =>
      intro me ru x2 H locs ls h hP hD hS hl
      rw [r_Ru_run_l52] at h
      refine lv_iload_n hx hb d_Ru_run_52 rfl (lv_at hl 1 rfl) ?_
      refine lv_ldc (v := 40002) hx hb hown (hts _ lk_530) d_Ru_run_53 ?_
      refine lv_icmp_ge (tgt := 107) hx hb d_Ru_run_55 (by decide) (fun c2 => ?_) (fun c2 => ?_)
      · rw [if_pos c2] at h
        exact J107 _ _ _ _ _ h hP hD hS (lv_sub hl [0] rfl)
      · rw [if_neg c2] at h
        refine lv_aload_n hx hb d_Ru_run_58 rfl (lv_at hl 0 rfl) ?_
        refine rd_Ru_fault hx hb hts hown hK hP lk_194 (v := (ru_fault ru)) rfl d_Ru_run_59 ?_
        refine lv_if_ne (tgt := 107) hx hb d_Ru_run_62 (by decide) (fun c3 => ?_) (fun c3 => ?_)
        · rw [if_neg c3] at h
          exact J107 _ _ _ _ _ h hP hD hS (lv_sub hl [0] rfl)
        · rw [if_pos c3] at h
          refine lv_aload_n hx hb d_Ru_run_65 rfl (lv_at hl 0 rfl) ?_
          refine rd_Ru_next hx hb hts hown hK hP lk_190 (v := (ru_next ru)) rfl d_Ru_run_66 ?_
          refine lv_aload_n hx hb d_Ru_run_69 rfl (lv_at hl 0 rfl) ?_
          refine rd_Ru_code hx hb hts hown hK hP lk_182 d_Ru_run_70 ?_
          refine lv_aload_n hx hb d_Ru_run_73 rfl (lv_at hl 0 rfl) ?_
          refine rd_Ru_unit hx hb hts hown hK hP lk_189 (v := (ru_unit ru)) rfl d_Ru_run_74 ?_
          obtain ⟨q4, hq4, h⟩ := Option.bind_eq_some_iff.mp h
          refine k_I (k_runVN ⟨hx, hb, hml, hown, hts⟩ (c_Co_sizeOf rfl hq4) ok_Co_sizeOf is_Co_sizeOf lk_531 rfl rfl ⟨by decide, by decide⟩ hP hK hD hS hA hz (ci := 1) (q0 := 1) rfl rfl ob_Co rfl hl.1 rfl (Nat.le_of_ble_eq_true rfl) d_Ru_run_77 ⟨Nat.zero_le _, Nat.zero_le _⟩) hD hS hA (fun H locs hP hD hS => ?_)
          refine lv_icmp_ge (tgt := 90) hx hb d_Ru_run_80 (by decide) (fun c5 => ?_) (fun c5 => ?_)
          · rw [if_pos c5] at h
            refine lv_aload_n hx hb d_Ru_run_90 rfl (lv_at hl 0 rfl) ?_
            refine rd_Ru_waiting hx hb hts hown hK hP lk_188 (v := (ru_waiting ru)) rfl d_Ru_run_91 ?_
            refine lv_if_le (tgt := 107) hx hb d_Ru_run_94 (by decide) (fun c6 => ?_) (fun c6 => ?_)
            · rw [if_pos c6] at h
              exact J107 _ _ _ _ _ h hP hD hS (lv_sub hl [0] rfl)
            · rw [if_neg c6] at h
              refine lv_aload_n hx hb d_Ru_run_97 rfl (lv_at hl 0 rfl) ?_
              obtain ⟨q7, hq7, h⟩ := Option.bind_eq_some_iff.mp h
              refine k_V (k_runV ⟨hx, hb, hml, hown, hts⟩ (c_Ru_goBack rfl hq7) ok_Ru_goBack is_Ru_goBack lk_651 rfl rfl ⟨by decide, by decide⟩ hP hK hD hS hA hz (ci := 7) (q0 := 22) rfl rfl ob_Ru rfl hl.1 rfl (Nat.le_of_ble_eq_true rfl) d_Ru_run_98 ⟨Nat.zero_le _, Nat.zero_le _⟩) hD hS hA (fun H locs hP hD hS => ?_)
              refine lv_iinc (v := (x2 + 1)) (lv' := [(2, .int (x2 + 1)), (0, .ref (ad 22))]) hx hb d_Ru_run_101 hl (k := 1) rfl rfl (by decide) rfl (fun ls hl => ?_)
              refine lv_goto (tgt := 52) hx hb d_Ru_run_104 (by decide) ?_
              exact ih52 _ _ _ _ _ _ h hP hD hS (lv_sub hl [1, 0] rfl)
          · rw [if_neg c5] at h
            refine lv_aload_n hx hb d_Ru_run_83 rfl (lv_at hl 0 rfl) ?_
            obtain ⟨q8, hq8, h⟩ := Option.bind_eq_some_iff.mp h
            refine k_V (k_runV ⟨hx, hb, hml, hown, hts⟩ (c_Ru_step rfl hq8) ok_Ru_step is_Ru_step lk_532 rfl rfl ⟨by decide, by decide⟩ hP hK hD hS hA hz (ci := 7) (q0 := 22) rfl rfl ob_Ru rfl hl.1 rfl (Nat.le_of_ble_eq_true rfl) d_Ru_run_84 ⟨Nat.zero_le _, Nat.zero_le _⟩) hD hS hA (fun H locs hP hD hS => ?_)
            refine lv_goto (tgt := 101) hx hb d_Ru_run_87 (by decide) ?_
            refine lv_iinc (v := (x2 + 1)) (lv' := [(2, .int (x2 + 1)), (0, .ref (ad 22))]) hx hb d_Ru_run_101 hl (k := 1) rfl rfl (by decide) rfl (fun ls hl => ?_)
            refine lv_goto (tgt := 52) hx hb d_Ru_run_104 (by decide) ?_
            exact ih52 _ _ _ _ _ _ h hP hD hS (lv_sub hl [1, 0] rfl)
  unfold r_Ru_run at h
  refine lv_aload_n hx hb d_Ru_run_0 rfl (lv_at hl 0 rfl) ?_
  refine lv_iload_n hx hb d_Ru_run_1 rfl (lv_at hl 1 rfl) ?_
  refine wr_Ru_now hx hb hts hown hK hP hD hS lk_195 d_Ru_run_2 (fun H locs hP hD hS => ?_)
  refine lv_aload_n hx hb d_Ru_run_5 rfl (lv_at hl 0 rfl) ?_
  refine rd_Ru_memory hx hb hts hown hK hP lk_183 d_Ru_run_6 ?_
  obtain ⟨q9, hq9, h⟩ := Option.bind_eq_some_iff.mp h
  refine k_V (k_runVN ⟨hx, hb, hml, hown, hts⟩ (c_Me_emptyStack rfl hq9) ok_Me_emptyStack is_Me_emptyStack lk_528 rfl rfl ⟨by decide, by decide⟩ hP hK hD hS hA hz (ci := 6) (q0 := 19) rfl rfl ob_Me rfl hl.1 rfl (Nat.le_of_ble_eq_true rfl) d_Ru_run_9 ⟨Nat.zero_le _, Nat.zero_le _⟩) hD hS hA (fun H locs hP hD hS => ?_)
  refine lv_aload_n hx hb d_Ru_run_12 rfl (lv_at hl 0 rfl) ?_
  refine lv_iconst (v := 0) hx hb d_Ru_run_13 (by decide) ?_
  refine wr_Ru_waiting hx hb hts hown hK hP hD hS lk_188 d_Ru_run_14 (fun H locs hP hD hS => ?_)
  refine lv_aload_n hx hb d_Ru_run_17 rfl (lv_at hl 0 rfl) ?_
  refine lv_iconst (v := 0) hx hb d_Ru_run_18 (by decide) ?_
  refine wr_Ru_steps hx hb hts hown hK hP hD hS lk_192 d_Ru_run_19 (fun H locs hP hD hS => ?_)
  refine lv_aload_n hx hb d_Ru_run_22 rfl (lv_at hl 0 rfl) ?_
  refine lv_iconst (v := 0) hx hb d_Ru_run_23 (by decide) ?_
  refine wr_Ru_fault hx hb hts hown hK hP hD hS lk_194 d_Ru_run_24 (fun H locs hP hD hS => ?_)
  refine lv_aload_n hx hb d_Ru_run_27 rfl (lv_at hl 0 rfl) ?_
  refine lv_aload_n hx hb d_Ru_run_28 rfl (lv_at hl 0 rfl) ?_
  refine rd_Ru_code hx hb hts hown hK hP lk_182 d_Ru_run_29 ?_
  obtain ⟨q10, hq10, h⟩ := Option.bind_eq_some_iff.mp h
  refine k_I (k_runVN ⟨hx, hb, hml, hown, hts⟩ (c_Co_unitCount rfl hq10) ok_Co_unitCount is_Co_unitCount lk_529 rfl rfl ⟨by decide, by decide⟩ hP hK hD hS hA hz (ci := 1) (q0 := 1) rfl rfl ob_Co rfl hl.1 rfl (Nat.le_of_ble_eq_true rfl) d_Ru_run_32 ⟨Nat.zero_le _, Nat.zero_le _⟩) hD hS hA (fun H locs hP hD hS => ?_)
  refine lv_iconst (v := 1) hx hb d_Ru_run_35 (by decide) ?_
  refine lv_isub hx hb d_Ru_run_36 ?_
  refine wr_Ru_unit hx hb hts hown hK hP hD hS lk_189 d_Ru_run_37 (fun H locs hP hD hS => ?_)
  refine lv_aload_n hx hb d_Ru_run_40 rfl (lv_at hl 0 rfl) ?_
  refine lv_iconst (v := 0) hx hb d_Ru_run_41 (by decide) ?_
  refine wr_Ru_next hx hb hts hown hK hP hD hS lk_190 d_Ru_run_42 (fun H locs hP hD hS => ?_)
  refine lv_aload_n hx hb d_Ru_run_45 rfl (lv_at hl 0 rfl) ?_
  refine lv_iconst (v := 0) hx hb d_Ru_run_46 (by decide) ?_
  refine wr_Ru_base hx hb hts hown hK hP hD hS lk_191 d_Ru_run_47 (fun H locs hP hD hS => ?_)
  refine lv_iconst (v := 0) hx hb d_Ru_run_50 (by decide) ?_
  refine lv_istore_n (lv' := [(2, .int (0 : Int32)), (0, .ref (ad 22)), (1, .int a0)]) hx hb d_Ru_run_51 rfl hl (by decide) rfl (fun ls hl => ?_)
  exact L52 n _ _ _ _ _ _ h hP hD hS (lv_sub hl [1, 0] rfl)
