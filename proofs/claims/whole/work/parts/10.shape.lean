/-! printed by wip/gen/gen3.py: pure functions and contracts of ScanMachine$Shape -/
theorem d_Sh_goesWrongWay_0 : decode b_Sh_goesWrongWay 0 = .ok (.aload_n 0, 1) := by decide +kernel
theorem d_Sh_goesWrongWay_1 : decode b_Sh_goesWrongWay 1 = .ok (.getfield 65, 3) := by decide +kernel
theorem d_Sh_goesWrongWay_4 : decode b_Sh_goesWrongWay 4 = .ok (.tableswitch 130 10 14 #[36, 36, 130, 71, 106], 36) := by decide +kernel
theorem d_Sh_goesWrongWay_40 : decode b_Sh_goesWrongWay 40 = .ok (.aload_n 0, 1) := by decide +kernel
theorem d_Sh_goesWrongWay_41 : decode b_Sh_goesWrongWay 41 = .ok (.getfield 71, 3) := by decide +kernel
theorem d_Sh_goesWrongWay_44 : decode b_Sh_goesWrongWay 44 = .ok (.aload_n 0, 1) := by decide +kernel
theorem d_Sh_goesWrongWay_45 : decode b_Sh_goesWrongWay 45 = .ok (.getfield 59, 3) := by decide +kernel
theorem d_Sh_goesWrongWay_48 : decode b_Sh_goesWrongWay 48 = .ok (.if_icmp .le 21, 3) := by decide +kernel
theorem d_Sh_goesWrongWay_51 : decode b_Sh_goesWrongWay 51 = .ok (.aload_n 0, 1) := by decide +kernel
theorem d_Sh_goesWrongWay_52 : decode b_Sh_goesWrongWay 52 = .ok (.getfield 71, 3) := by decide +kernel
theorem d_Sh_goesWrongWay_55 : decode b_Sh_goesWrongWay 55 = .ok (.aload_n 0, 1) := by decide +kernel
theorem d_Sh_goesWrongWay_56 : decode b_Sh_goesWrongWay 56 = .ok (.getfield 9, 3) := by decide +kernel
theorem d_Sh_goesWrongWay_59 : decode b_Sh_goesWrongWay 59 = .ok (.aload_n 0, 1) := by decide +kernel
theorem d_Sh_goesWrongWay_60 : decode b_Sh_goesWrongWay 60 = .ok (.getfield 15, 3) := by decide +kernel
theorem d_Sh_goesWrongWay_63 : decode b_Sh_goesWrongWay 63 = .ok (.invokevirtual 23, 3) := by decide +kernel
theorem d_Sh_goesWrongWay_66 : decode b_Sh_goesWrongWay 66 = .ok (.if_icmp .le 7, 3) := by decide +kernel
theorem d_Sh_goesWrongWay_69 : decode b_Sh_goesWrongWay 69 = .ok (.iconst 1, 1) := by decide +kernel
theorem d_Sh_goesWrongWay_70 : decode b_Sh_goesWrongWay 70 = .ok (.goto 4, 3) := by decide +kernel
theorem d_Sh_goesWrongWay_73 : decode b_Sh_goesWrongWay 73 = .ok (.iconst 0, 1) := by decide +kernel
theorem d_Sh_goesWrongWay_74 : decode b_Sh_goesWrongWay 74 = .ok (.ireturn, 1) := by decide +kernel
theorem d_Sh_goesWrongWay_75 : decode b_Sh_goesWrongWay 75 = .ok (.aload_n 0, 1) := by decide +kernel
theorem d_Sh_goesWrongWay_76 : decode b_Sh_goesWrongWay 76 = .ok (.getfield 77, 3) := by decide +kernel
theorem d_Sh_goesWrongWay_79 : decode b_Sh_goesWrongWay 79 = .ok (.aload_n 0, 1) := by decide +kernel
theorem d_Sh_goesWrongWay_80 : decode b_Sh_goesWrongWay 80 = .ok (.getfield 59, 3) := by decide +kernel
theorem d_Sh_goesWrongWay_83 : decode b_Sh_goesWrongWay 83 = .ok (.if_icmp .le 21, 3) := by decide +kernel
theorem d_Sh_goesWrongWay_86 : decode b_Sh_goesWrongWay 86 = .ok (.aload_n 0, 1) := by decide +kernel
theorem d_Sh_goesWrongWay_87 : decode b_Sh_goesWrongWay 87 = .ok (.getfield 77, 3) := by decide +kernel
theorem d_Sh_goesWrongWay_90 : decode b_Sh_goesWrongWay 90 = .ok (.aload_n 0, 1) := by decide +kernel
theorem d_Sh_goesWrongWay_91 : decode b_Sh_goesWrongWay 91 = .ok (.getfield 9, 3) := by decide +kernel
theorem d_Sh_goesWrongWay_94 : decode b_Sh_goesWrongWay 94 = .ok (.aload_n 0, 1) := by decide +kernel
theorem d_Sh_goesWrongWay_95 : decode b_Sh_goesWrongWay 95 = .ok (.getfield 15, 3) := by decide +kernel
theorem d_Sh_goesWrongWay_98 : decode b_Sh_goesWrongWay 98 = .ok (.invokevirtual 23, 3) := by decide +kernel
theorem d_Sh_goesWrongWay_101 : decode b_Sh_goesWrongWay 101 = .ok (.if_icmp .le 7, 3) := by decide +kernel
theorem d_Sh_goesWrongWay_104 : decode b_Sh_goesWrongWay 104 = .ok (.iconst 1, 1) := by decide +kernel
theorem d_Sh_goesWrongWay_105 : decode b_Sh_goesWrongWay 105 = .ok (.goto 4, 3) := by decide +kernel
theorem d_Sh_goesWrongWay_108 : decode b_Sh_goesWrongWay 108 = .ok (.iconst 0, 1) := by decide +kernel
theorem d_Sh_goesWrongWay_109 : decode b_Sh_goesWrongWay 109 = .ok (.ireturn, 1) := by decide +kernel
theorem d_Sh_goesWrongWay_110 : decode b_Sh_goesWrongWay 110 = .ok (.aload_n 0, 1) := by decide +kernel
theorem d_Sh_goesWrongWay_111 : decode b_Sh_goesWrongWay 111 = .ok (.getfield 71, 3) := by decide +kernel
theorem d_Sh_goesWrongWay_114 : decode b_Sh_goesWrongWay 114 = .ok (.ifCond .lt 14, 3) := by decide +kernel
theorem d_Sh_goesWrongWay_117 : decode b_Sh_goesWrongWay 117 = .ok (.aload_n 0, 1) := by decide +kernel
theorem d_Sh_goesWrongWay_118 : decode b_Sh_goesWrongWay 118 = .ok (.getfield 71, 3) := by decide +kernel
theorem d_Sh_goesWrongWay_121 : decode b_Sh_goesWrongWay 121 = .ok (.aload_n 0, 1) := by decide +kernel
theorem d_Sh_goesWrongWay_122 : decode b_Sh_goesWrongWay 122 = .ok (.getfield 59, 3) := by decide +kernel
theorem d_Sh_goesWrongWay_125 : decode b_Sh_goesWrongWay 125 = .ok (.if_icmp .lt 7, 3) := by decide +kernel
theorem d_Sh_goesWrongWay_128 : decode b_Sh_goesWrongWay 128 = .ok (.iconst 1, 1) := by decide +kernel
theorem d_Sh_goesWrongWay_129 : decode b_Sh_goesWrongWay 129 = .ok (.goto 4, 3) := by decide +kernel
theorem d_Sh_goesWrongWay_132 : decode b_Sh_goesWrongWay 132 = .ok (.iconst 0, 1) := by decide +kernel
theorem d_Sh_goesWrongWay_133 : decode b_Sh_goesWrongWay 133 = .ok (.ireturn, 1) := by decide +kernel
theorem d_Sh_goesWrongWay_134 : decode b_Sh_goesWrongWay 134 = .ok (.iconst 0, 1) := by decide +kernel
theorem d_Sh_goesWrongWay_135 : decode b_Sh_goesWrongWay 135 = .ok (.ireturn, 1) := by decide +kernel
def r_Sh_goesWrongWay (n : Nat) (ko : T_ko) (sh : T_sh)  : Option (Int32) := if (sh_number sh) = (10 : Int32) then if (sh_a sh) ≤ (sh_i sh) then some ((1 : Int32)) else (r_Co_sizeOf n ko (sh_unit sh)).bind (fun q3 => if (sh_a sh) ≤ q3 then some ((0 : Int32)) else some ((1 : Int32))) else if (sh_number sh) = (11 : Int32) then if (sh_a sh) ≤ (sh_i sh) then some ((1 : Int32)) else (r_Co_sizeOf n ko (sh_unit sh)).bind (fun q7 => if (sh_a sh) ≤ q7 then some ((0 : Int32)) else some ((1 : Int32))) else if (sh_number sh) = (13 : Int32) then if (sh_b sh) ≤ (sh_i sh) then some ((1 : Int32)) else (r_Co_sizeOf n ko (sh_unit sh)).bind (fun q11 => if (sh_b sh) ≤ q11 then some ((0 : Int32)) else some ((1 : Int32))) else if (sh_number sh) = (14 : Int32) then if (sh_a sh) < 0 then some ((1 : Int32)) else if (sh_a sh) < (sh_i sh) then some ((0 : Int32)) else some ((1 : Int32)) else some ((0 : Int32))
def rm_Sh_goesWrongWay : Jvm.Room := { frames := 2, cells := 0, slots := 0, locals := 42 }
set_option maxHeartbeats 4000000 in
set_option maxRecDepth 100000 in
theorem c_Sh_goesWrongWay {l : Launch} {D : va_G} {cI cL : ClassId} {ad : Nat → Nat} {ma : T_ma} {ko : T_ko} {sh : T_sh} {lo : T_lo} {de : T_de} {wa : T_wa} {me : T_me} {ru : T_ru} {ws0 : va_W} {sz n : Nat}  {r9 : Int32} (hw : ws0 = (wX cI cL ad ma ko sh lo de wa me ru)) (h : r_Sh_goesWrongWay n ko sh  = some r9) : Met l y_Sh_goesWrongWay (Cond.code y_Sh_goesWrongWay b_Sh_goesWrongWay 1 (some .boolean) :: TB) rm_Sh_goesWrongWay (PreW D clX (tyX cI cL) ws0 [.ref (ad 10)] sz) (PstI D clX (tyX cI cL) ws0 (wX cI cL ad ma ko sh lo de wa me ru) sz r9) 0 0 (va_A ws0 sz) := by
  refine k_met (by decide) (Nat.le_of_ble_eq_true rfl) ?_
  intro p e s m below meth c ls hx hb hr hml hts hown hlk hnm hsz hP hK hD hA hz hl
  have hP : va_P D clX (wX cI cL ad ma ko sh lo de wa me ru) s.heap := by rw [← hw]; exact hP
  have hD : va_D (va_A ws0 sz) (wX cI cL ad ma ko sh lo de wa me ru) := by rw [← hw]; exact hD
  have hS : va_S (va_A ws0 sz) s.heap s.heap [] := va_S.rf
  have hl : lv_has ls 1 [(0, .ref (ad 10))] := hl
  generalize hQ : MQ below (PstI D clX (tyX cI cL) ws0 (wX cI cL ad ma ko sh lo de wa me ru) sz r9) [.ref (ad 10)].toArray s 0 0 (va_A ws0 sz) = Q
  unfold r_Sh_goesWrongWay at h
  refine lv_aload_n hx hb d_Sh_goesWrongWay_0 rfl (lv_at hl 0 rfl) ?_
  refine rd_Sh_number hx hb hts hown hK hP lk_69 (v := (sh_number sh)) rfl d_Sh_goesWrongWay_1 ?_
  by_cases c1 : (sh_number sh) = (10 : Int32)
  · rw [if_pos c1] at h
    refine k_sw c1 ?_
    refine lv_tableIn (tgt := 40) hx hb d_Sh_goesWrongWay_4 (by decide) (by decide) rfl (by decide) ?_
    refine lv_aload_n hx hb d_Sh_goesWrongWay_40 rfl (lv_at hl 0 rfl) ?_
    refine rd_Sh_a hx hb hts hown hK hP lk_70 (v := (sh_a sh)) rfl d_Sh_goesWrongWay_41 ?_
    refine lv_aload_n hx hb d_Sh_goesWrongWay_44 rfl (lv_at hl 0 rfl) ?_
    refine rd_Sh_i hx hb hts hown hK hP lk_68 (v := (sh_i sh)) rfl d_Sh_goesWrongWay_45 ?_
    refine lv_icmp_le (tgt := 69) hx hb d_Sh_goesWrongWay_48 (by decide) (fun c2 => ?_) (fun c2 => ?_)
    · rw [if_pos c2] at h
      refine lv_iconst (v := 1) hx hb d_Sh_goesWrongWay_69 (by decide) ?_
      refine lv_goto (tgt := 74) hx hb d_Sh_goesWrongWay_70 (by decide) ?_
      cases h
      subst hQ
      exact k_zret hx hb hr hlk (Or.inr rfl) hP hK hD hS d_Sh_goesWrongWay_74
    · rw [if_neg c2] at h
      refine lv_aload_n hx hb d_Sh_goesWrongWay_51 rfl (lv_at hl 0 rfl) ?_
      refine rd_Sh_a hx hb hts hown hK hP lk_70 (v := (sh_a sh)) rfl d_Sh_goesWrongWay_52 ?_
      refine lv_aload_n hx hb d_Sh_goesWrongWay_55 rfl (lv_at hl 0 rfl) ?_
      refine rd_Sh_code hx hb hts hown hK hP lk_66 d_Sh_goesWrongWay_56 ?_
      refine lv_aload_n hx hb d_Sh_goesWrongWay_59 rfl (lv_at hl 0 rfl) ?_
      refine rd_Sh_unit hx hb hts hown hK hP lk_67 (v := (sh_unit sh)) rfl d_Sh_goesWrongWay_60 ?_
      obtain ⟨q3, hq3, h⟩ := Option.bind_eq_some_iff.mp h
      refine k_I (k_runVN ⟨hx, hb, hml, hown, hts⟩ (c_Co_sizeOf rfl hq3) ok_Co_sizeOf is_Co_sizeOf lk_355 rfl rfl ⟨by decide, by decide⟩ hP hK hD hS hA hz (ci := 1) (q0 := 1) rfl rfl ob_Co rfl hl.1 rfl (Nat.le_of_ble_eq_true rfl) d_Sh_goesWrongWay_63 ⟨Nat.zero_le _, Nat.zero_le _⟩) hD hS hA (fun H locs hP hD hS => ?_)
      refine lv_icmp_le (tgt := 73) hx hb d_Sh_goesWrongWay_66 (by decide) (fun c4 => ?_) (fun c4 => ?_)
      · rw [if_pos c4] at h
        refine lv_iconst (v := 0) hx hb d_Sh_goesWrongWay_73 (by decide) ?_
        cases h
        subst hQ
        exact k_zret hx hb hr hlk (Or.inl rfl) hP hK hD hS d_Sh_goesWrongWay_74
      · rw [if_neg c4] at h
        refine lv_iconst (v := 1) hx hb d_Sh_goesWrongWay_69 (by decide) ?_
        refine lv_goto (tgt := 74) hx hb d_Sh_goesWrongWay_70 (by decide) ?_
        cases h
        subst hQ
        exact k_zret hx hb hr hlk (Or.inr rfl) hP hK hD hS d_Sh_goesWrongWay_74
  · rw [if_neg c1] at h
    by_cases c5 : (sh_number sh) = (11 : Int32)
    · rw [if_pos c5] at h
      refine k_sw c5 ?_
      refine lv_tableIn (tgt := 40) hx hb d_Sh_goesWrongWay_4 (by decide) (by decide) rfl (by decide) ?_
      refine lv_aload_n hx hb d_Sh_goesWrongWay_40 rfl (lv_at hl 0 rfl) ?_
      refine rd_Sh_a hx hb hts hown hK hP lk_70 (v := (sh_a sh)) rfl d_Sh_goesWrongWay_41 ?_
      refine lv_aload_n hx hb d_Sh_goesWrongWay_44 rfl (lv_at hl 0 rfl) ?_
      refine rd_Sh_i hx hb hts hown hK hP lk_68 (v := (sh_i sh)) rfl d_Sh_goesWrongWay_45 ?_
      refine lv_icmp_le (tgt := 69) hx hb d_Sh_goesWrongWay_48 (by decide) (fun c6 => ?_) (fun c6 => ?_)
      · rw [if_pos c6] at h
        refine lv_iconst (v := 1) hx hb d_Sh_goesWrongWay_69 (by decide) ?_
        refine lv_goto (tgt := 74) hx hb d_Sh_goesWrongWay_70 (by decide) ?_
        cases h
        subst hQ
        exact k_zret hx hb hr hlk (Or.inr rfl) hP hK hD hS d_Sh_goesWrongWay_74
      · rw [if_neg c6] at h
        refine lv_aload_n hx hb d_Sh_goesWrongWay_51 rfl (lv_at hl 0 rfl) ?_
        refine rd_Sh_a hx hb hts hown hK hP lk_70 (v := (sh_a sh)) rfl d_Sh_goesWrongWay_52 ?_
        refine lv_aload_n hx hb d_Sh_goesWrongWay_55 rfl (lv_at hl 0 rfl) ?_
        refine rd_Sh_code hx hb hts hown hK hP lk_66 d_Sh_goesWrongWay_56 ?_
        refine lv_aload_n hx hb d_Sh_goesWrongWay_59 rfl (lv_at hl 0 rfl) ?_
        refine rd_Sh_unit hx hb hts hown hK hP lk_67 (v := (sh_unit sh)) rfl d_Sh_goesWrongWay_60 ?_
        obtain ⟨q7, hq7, h⟩ := Option.bind_eq_some_iff.mp h
        refine k_I (k_runVN ⟨hx, hb, hml, hown, hts⟩ (c_Co_sizeOf rfl hq7) ok_Co_sizeOf is_Co_sizeOf lk_355 rfl rfl ⟨by decide, by decide⟩ hP hK hD hS hA hz (ci := 1) (q0 := 1) rfl rfl ob_Co rfl hl.1 rfl (Nat.le_of_ble_eq_true rfl) d_Sh_goesWrongWay_63 ⟨Nat.zero_le _, Nat.zero_le _⟩) hD hS hA (fun H locs hP hD hS => ?_)
        refine lv_icmp_le (tgt := 73) hx hb d_Sh_goesWrongWay_66 (by decide) (fun c8 => ?_) (fun c8 => ?_)
        · rw [if_pos c8] at h
          refine lv_iconst (v := 0) hx hb d_Sh_goesWrongWay_73 (by decide) ?_
          cases h
          subst hQ
          exact k_zret hx hb hr hlk (Or.inl rfl) hP hK hD hS d_Sh_goesWrongWay_74
        · rw [if_neg c8] at h
          refine lv_iconst (v := 1) hx hb d_Sh_goesWrongWay_69 (by decide) ?_
          refine lv_goto (tgt := 74) hx hb d_Sh_goesWrongWay_70 (by decide) ?_
          cases h
          subst hQ
          exact k_zret hx hb hr hlk (Or.inr rfl) hP hK hD hS d_Sh_goesWrongWay_74
    · rw [if_neg c5] at h
      by_cases c9 : (sh_number sh) = (13 : Int32)
      · rw [if_pos c9] at h
        refine k_sw c9 ?_
        refine lv_tableIn (tgt := 75) hx hb d_Sh_goesWrongWay_4 (by decide) (by decide) rfl (by decide) ?_
        refine lv_aload_n hx hb d_Sh_goesWrongWay_75 rfl (lv_at hl 0 rfl) ?_
        refine rd_Sh_b hx hb hts hown hK hP lk_71 (v := (sh_b sh)) rfl d_Sh_goesWrongWay_76 ?_
        refine lv_aload_n hx hb d_Sh_goesWrongWay_79 rfl (lv_at hl 0 rfl) ?_
        refine rd_Sh_i hx hb hts hown hK hP lk_68 (v := (sh_i sh)) rfl d_Sh_goesWrongWay_80 ?_
        refine lv_icmp_le (tgt := 104) hx hb d_Sh_goesWrongWay_83 (by decide) (fun c10 => ?_) (fun c10 => ?_)
        · rw [if_pos c10] at h
          refine lv_iconst (v := 1) hx hb d_Sh_goesWrongWay_104 (by decide) ?_
          refine lv_goto (tgt := 109) hx hb d_Sh_goesWrongWay_105 (by decide) ?_
          cases h
          subst hQ
          exact k_zret hx hb hr hlk (Or.inr rfl) hP hK hD hS d_Sh_goesWrongWay_109
        · rw [if_neg c10] at h
          refine lv_aload_n hx hb d_Sh_goesWrongWay_86 rfl (lv_at hl 0 rfl) ?_
          refine rd_Sh_b hx hb hts hown hK hP lk_71 (v := (sh_b sh)) rfl d_Sh_goesWrongWay_87 ?_
          refine lv_aload_n hx hb d_Sh_goesWrongWay_90 rfl (lv_at hl 0 rfl) ?_
          refine rd_Sh_code hx hb hts hown hK hP lk_66 d_Sh_goesWrongWay_91 ?_
          refine lv_aload_n hx hb d_Sh_goesWrongWay_94 rfl (lv_at hl 0 rfl) ?_
          refine rd_Sh_unit hx hb hts hown hK hP lk_67 (v := (sh_unit sh)) rfl d_Sh_goesWrongWay_95 ?_
          obtain ⟨q11, hq11, h⟩ := Option.bind_eq_some_iff.mp h
          refine k_I (k_runVN ⟨hx, hb, hml, hown, hts⟩ (c_Co_sizeOf rfl hq11) ok_Co_sizeOf is_Co_sizeOf lk_355 rfl rfl ⟨by decide, by decide⟩ hP hK hD hS hA hz (ci := 1) (q0 := 1) rfl rfl ob_Co rfl hl.1 rfl (Nat.le_of_ble_eq_true rfl) d_Sh_goesWrongWay_98 ⟨Nat.zero_le _, Nat.zero_le _⟩) hD hS hA (fun H locs hP hD hS => ?_)
          refine lv_icmp_le (tgt := 108) hx hb d_Sh_goesWrongWay_101 (by decide) (fun c12 => ?_) (fun c12 => ?_)
          · rw [if_pos c12] at h
            refine lv_iconst (v := 0) hx hb d_Sh_goesWrongWay_108 (by decide) ?_
            cases h
            subst hQ
            exact k_zret hx hb hr hlk (Or.inl rfl) hP hK hD hS d_Sh_goesWrongWay_109
          · rw [if_neg c12] at h
            refine lv_iconst (v := 1) hx hb d_Sh_goesWrongWay_104 (by decide) ?_
            refine lv_goto (tgt := 109) hx hb d_Sh_goesWrongWay_105 (by decide) ?_
            cases h
            subst hQ
            exact k_zret hx hb hr hlk (Or.inr rfl) hP hK hD hS d_Sh_goesWrongWay_109
      · rw [if_neg c9] at h
        by_cases c13 : (sh_number sh) = (14 : Int32)
        · rw [if_pos c13] at h
          refine k_sw c13 ?_
          refine lv_tableIn (tgt := 110) hx hb d_Sh_goesWrongWay_4 (by decide) (by decide) rfl (by decide) ?_
          refine lv_aload_n hx hb d_Sh_goesWrongWay_110 rfl (lv_at hl 0 rfl) ?_
          refine rd_Sh_a hx hb hts hown hK hP lk_70 (v := (sh_a sh)) rfl d_Sh_goesWrongWay_111 ?_
          refine lv_if_lt (tgt := 128) hx hb d_Sh_goesWrongWay_114 (by decide) (fun c14 => ?_) (fun c14 => ?_)
          · rw [if_pos c14] at h
            refine lv_iconst (v := 1) hx hb d_Sh_goesWrongWay_128 (by decide) ?_
            refine lv_goto (tgt := 133) hx hb d_Sh_goesWrongWay_129 (by decide) ?_
            cases h
            subst hQ
            exact k_zret hx hb hr hlk (Or.inr rfl) hP hK hD hS d_Sh_goesWrongWay_133
          · rw [if_neg c14] at h
            refine lv_aload_n hx hb d_Sh_goesWrongWay_117 rfl (lv_at hl 0 rfl) ?_
            refine rd_Sh_a hx hb hts hown hK hP lk_70 (v := (sh_a sh)) rfl d_Sh_goesWrongWay_118 ?_
            refine lv_aload_n hx hb d_Sh_goesWrongWay_121 rfl (lv_at hl 0 rfl) ?_
            refine rd_Sh_i hx hb hts hown hK hP lk_68 (v := (sh_i sh)) rfl d_Sh_goesWrongWay_122 ?_
            refine lv_icmp_lt (tgt := 132) hx hb d_Sh_goesWrongWay_125 (by decide) (fun c15 => ?_) (fun c15 => ?_)
            · rw [if_pos c15] at h
              refine lv_iconst (v := 0) hx hb d_Sh_goesWrongWay_132 (by decide) ?_
              cases h
              subst hQ
              exact k_zret hx hb hr hlk (Or.inl rfl) hP hK hD hS d_Sh_goesWrongWay_133
            · rw [if_neg c15] at h
              refine lv_iconst (v := 1) hx hb d_Sh_goesWrongWay_128 (by decide) ?_
              refine lv_goto (tgt := 133) hx hb d_Sh_goesWrongWay_129 (by decide) ?_
              cases h
              subst hQ
              exact k_zret hx hb hr hlk (Or.inr rfl) hP hK hD hS d_Sh_goesWrongWay_133
        · rw [if_neg c13] at h
          by_cases c16 : (sh_number sh) = (12 : Int32)
          · refine k_sw c16 ?_
            refine lv_tableIn (tgt := 134) hx hb d_Sh_goesWrongWay_4 (by decide) (by decide) rfl (by decide) ?_
            refine lv_iconst (v := 0) hx hb d_Sh_goesWrongWay_134 (by decide) ?_
            cases h
            subst hQ
            exact k_zret hx hb hr hlk (Or.inl rfl) hP hK hD hS d_Sh_goesWrongWay_135
          ·
            refine lv_tableOut (tgt := 134) hx hb d_Sh_goesWrongWay_4 (by have ec1 := lv_neT c1 (a := 10) (by decide); have ec5 := lv_neT c5 (a := 11) (by decide); have ec9 := lv_neT c9 (a := 13) (by decide); have ec13 := lv_neT c13 (a := 14) (by decide); have ec16 := lv_neT c16 (a := 12) (by decide); omega) (by decide) ?_
            refine lv_iconst (v := 0) hx hb d_Sh_goesWrongWay_134 (by decide) ?_
            cases h
            subst hQ
            exact k_zret hx hb hr hlk (Or.inl rfl) hP hK hD hS d_Sh_goesWrongWay_135
theorem d_Sh_ownerOfCells_0 : decode b_Sh_ownerOfCells 0 = .ok (.aload_n 0, 1) := by decide +kernel
theorem d_Sh_ownerOfCells_1 : decode b_Sh_ownerOfCells 1 = .ok (.getfield 65, 3) := by decide +kernel
theorem d_Sh_ownerOfCells_4 : decode b_Sh_ownerOfCells 4 = .ok (.iconst 5, 1) := by decide +kernel
theorem d_Sh_ownerOfCells_5 : decode b_Sh_ownerOfCells 5 = .ok (.if_icmp .eq 12, 3) := by decide +kernel
theorem d_Sh_ownerOfCells_8 : decode b_Sh_ownerOfCells 8 = .ok (.aload_n 0, 1) := by decide +kernel
theorem d_Sh_ownerOfCells_9 : decode b_Sh_ownerOfCells 9 = .ok (.getfield 65, 3) := by decide +kernel
theorem d_Sh_ownerOfCells_12 : decode b_Sh_ownerOfCells 12 = .ok (.bipush 6, 2) := by decide +kernel
theorem d_Sh_ownerOfCells_14 : decode b_Sh_ownerOfCells 14 = .ok (.if_icmp .ne 10, 3) := by decide +kernel
theorem d_Sh_ownerOfCells_17 : decode b_Sh_ownerOfCells 17 = .ok (.aload_n 0, 1) := by decide +kernel
theorem d_Sh_ownerOfCells_18 : decode b_Sh_ownerOfCells 18 = .ok (.getfield 71, 3) := by decide +kernel
theorem d_Sh_ownerOfCells_21 : decode b_Sh_ownerOfCells 21 = .ok (.goto 7, 3) := by decide +kernel
theorem d_Sh_ownerOfCells_24 : decode b_Sh_ownerOfCells 24 = .ok (.aload_n 0, 1) := by decide +kernel
theorem d_Sh_ownerOfCells_25 : decode b_Sh_ownerOfCells 25 = .ok (.getfield 15, 3) := by decide +kernel
theorem d_Sh_ownerOfCells_28 : decode b_Sh_ownerOfCells 28 = .ok (.ireturn, 1) := by decide +kernel
def r_Sh_ownerOfCells (n : Nat) (sh : T_sh)  : Option (Int32) := if (sh_number sh) = (5 : Int32) then some ((sh_a sh)) else if (sh_number sh) = (6 : Int32) then some ((sh_a sh)) else some ((sh_unit sh))
def rm_Sh_ownerOfCells : Jvm.Room := { frames := 0, cells := 0, slots := 0, locals := 0 }
set_option maxHeartbeats 4000000 in
set_option maxRecDepth 100000 in
theorem c_Sh_ownerOfCells {l : Launch} {D : va_G} {cI cL : ClassId} {ad : Nat → Nat} {ma : T_ma} {ko : T_ko} {sh : T_sh} {lo : T_lo} {de : T_de} {wa : T_wa} {me : T_me} {ru : T_ru} {ws0 : va_W} {sz n : Nat}  {r9 : Int32} (hw : ws0 = (wX cI cL ad ma ko sh lo de wa me ru)) (h : r_Sh_ownerOfCells n sh  = some r9) : Met l y_Sh_ownerOfCells (Cond.code y_Sh_ownerOfCells b_Sh_ownerOfCells 1 (some .int) :: TB) rm_Sh_ownerOfCells (PreW D clX (tyX cI cL) ws0 [.ref (ad 10)] sz) (PstI D clX (tyX cI cL) ws0 (wX cI cL ad ma ko sh lo de wa me ru) sz r9) 0 0 (va_A ws0 sz) := by
  refine k_met (by decide) (Nat.le_of_ble_eq_true rfl) ?_
  intro p e s m below meth c ls hx hb hr hml hts hown hlk hnm hsz hP hK hD hA hz hl
  have hP : va_P D clX (wX cI cL ad ma ko sh lo de wa me ru) s.heap := by rw [← hw]; exact hP
  have hD : va_D (va_A ws0 sz) (wX cI cL ad ma ko sh lo de wa me ru) := by rw [← hw]; exact hD
  have hS : va_S (va_A ws0 sz) s.heap s.heap [] := va_S.rf
  have hl : lv_has ls 1 [(0, .ref (ad 10))] := hl
  generalize hQ : MQ below (PstI D clX (tyX cI cL) ws0 (wX cI cL ad ma ko sh lo de wa me ru) sz r9) [.ref (ad 10)].toArray s 0 0 (va_A ws0 sz) = Q
  unfold r_Sh_ownerOfCells at h
  refine lv_aload_n hx hb d_Sh_ownerOfCells_0 rfl (lv_at hl 0 rfl) ?_
  refine rd_Sh_number hx hb hts hown hK hP lk_69 (v := (sh_number sh)) rfl d_Sh_ownerOfCells_1 ?_
  refine lv_iconst (v := 5) hx hb d_Sh_ownerOfCells_4 (by decide) ?_
  refine lv_icmp_eq (tgt := 17) hx hb d_Sh_ownerOfCells_5 (by decide) (fun c1 => ?_) (fun c1 => ?_)
  · rw [if_pos c1] at h
    refine lv_aload_n hx hb d_Sh_ownerOfCells_17 rfl (lv_at hl 0 rfl) ?_
    refine rd_Sh_a hx hb hts hown hK hP lk_70 (v := (sh_a sh)) rfl d_Sh_ownerOfCells_18 ?_
    refine lv_goto (tgt := 28) hx hb d_Sh_ownerOfCells_21 (by decide) ?_
    cases h
    subst hQ
    exact k_iret hx hb hr hlk hP hK hD hS d_Sh_ownerOfCells_28
  · rw [if_neg c1] at h
    refine lv_aload_n hx hb d_Sh_ownerOfCells_8 rfl (lv_at hl 0 rfl) ?_
    refine rd_Sh_number hx hb hts hown hK hP lk_69 (v := (sh_number sh)) rfl d_Sh_ownerOfCells_9 ?_
    refine lv_bipush (v := 6) hx hb d_Sh_ownerOfCells_12 (by decide) ?_
    refine lv_icmp_ne (tgt := 24) hx hb d_Sh_ownerOfCells_14 (by decide) (fun c2 => ?_) (fun c2 => ?_)
    · rw [if_neg c2] at h
      refine lv_aload_n hx hb d_Sh_ownerOfCells_24 rfl (lv_at hl 0 rfl) ?_
      refine rd_Sh_unit hx hb hts hown hK hP lk_67 (v := (sh_unit sh)) rfl d_Sh_ownerOfCells_25 ?_
      cases h
      subst hQ
      exact k_iret hx hb hr hlk hP hK hD hS d_Sh_ownerOfCells_28
    · rw [if_pos c2] at h
      refine lv_aload_n hx hb d_Sh_ownerOfCells_17 rfl (lv_at hl 0 rfl) ?_
      refine rd_Sh_a hx hb hts hown hK hP lk_70 (v := (sh_a sh)) rfl d_Sh_ownerOfCells_18 ?_
      refine lv_goto (tgt := 28) hx hb d_Sh_ownerOfCells_21 (by decide) ?_
      cases h
      subst hQ
      exact k_iret hx hb hr hlk hP hK hD hS d_Sh_ownerOfCells_28
theorem d_Sh_firstCell_0 : decode b_Sh_firstCell 0 = .ok (.aload_n 0, 1) := by decide +kernel
theorem d_Sh_firstCell_1 : decode b_Sh_firstCell 1 = .ok (.getfield 65, 3) := by decide +kernel
theorem d_Sh_firstCell_4 : decode b_Sh_firstCell 4 = .ok (.iconst 5, 1) := by decide +kernel
theorem d_Sh_firstCell_5 : decode b_Sh_firstCell 5 = .ok (.if_icmp .eq 30, 3) := by decide +kernel
theorem d_Sh_firstCell_8 : decode b_Sh_firstCell 8 = .ok (.aload_n 0, 1) := by decide +kernel
theorem d_Sh_firstCell_9 : decode b_Sh_firstCell 9 = .ok (.getfield 65, 3) := by decide +kernel
theorem d_Sh_firstCell_12 : decode b_Sh_firstCell 12 = .ok (.bipush 6, 2) := by decide +kernel
theorem d_Sh_firstCell_14 : decode b_Sh_firstCell 14 = .ok (.if_icmp .eq 21, 3) := by decide +kernel
theorem d_Sh_firstCell_17 : decode b_Sh_firstCell 17 = .ok (.aload_n 0, 1) := by decide +kernel
theorem d_Sh_firstCell_18 : decode b_Sh_firstCell 18 = .ok (.getfield 65, 3) := by decide +kernel
theorem d_Sh_firstCell_21 : decode b_Sh_firstCell 21 = .ok (.bipush 15, 2) := by decide +kernel
theorem d_Sh_firstCell_23 : decode b_Sh_firstCell 23 = .ok (.if_icmp .eq 12, 3) := by decide +kernel
theorem d_Sh_firstCell_26 : decode b_Sh_firstCell 26 = .ok (.aload_n 0, 1) := by decide +kernel
theorem d_Sh_firstCell_27 : decode b_Sh_firstCell 27 = .ok (.getfield 65, 3) := by decide +kernel
theorem d_Sh_firstCell_30 : decode b_Sh_firstCell 30 = .ok (.bipush 17, 2) := by decide +kernel
theorem d_Sh_firstCell_32 : decode b_Sh_firstCell 32 = .ok (.if_icmp .ne 7, 3) := by decide +kernel
theorem d_Sh_firstCell_35 : decode b_Sh_firstCell 35 = .ok (.iconst 1, 1) := by decide +kernel
theorem d_Sh_firstCell_36 : decode b_Sh_firstCell 36 = .ok (.goto 4, 3) := by decide +kernel
theorem d_Sh_firstCell_39 : decode b_Sh_firstCell 39 = .ok (.iconst 0, 1) := by decide +kernel
theorem d_Sh_firstCell_40 : decode b_Sh_firstCell 40 = .ok (.istore_n 1, 1) := by decide +kernel
theorem d_Sh_firstCell_41 : decode b_Sh_firstCell 41 = .ok (.iload_n 1, 1) := by decide +kernel
theorem d_Sh_firstCell_42 : decode b_Sh_firstCell 42 = .ok (.ifCond .eq 10, 3) := by decide +kernel
theorem d_Sh_firstCell_45 : decode b_Sh_firstCell 45 = .ok (.aload_n 0, 1) := by decide +kernel
theorem d_Sh_firstCell_46 : decode b_Sh_firstCell 46 = .ok (.getfield 77, 3) := by decide +kernel
theorem d_Sh_firstCell_49 : decode b_Sh_firstCell 49 = .ok (.goto 7, 3) := by decide +kernel
theorem d_Sh_firstCell_52 : decode b_Sh_firstCell 52 = .ok (.aload_n 0, 1) := by decide +kernel
theorem d_Sh_firstCell_53 : decode b_Sh_firstCell 53 = .ok (.getfield 71, 3) := by decide +kernel
theorem d_Sh_firstCell_56 : decode b_Sh_firstCell 56 = .ok (.ireturn, 1) := by decide +kernel
def r_Sh_firstCell_j40 (n : Nat) (sh : T_sh)  (y0 : Int32) : Option (Int32) := if y0 = 0 then some ((sh_a sh)) else some ((sh_b sh))
def r_Sh_firstCell_j35 (n : Nat) (sh : T_sh)   : Option (Int32) := r_Sh_firstCell_j40 n sh (1 : Int32)
def r_Sh_firstCell (n : Nat) (sh : T_sh)  : Option (Int32) := if (sh_number sh) = (5 : Int32) then r_Sh_firstCell_j35 n sh else if (sh_number sh) = (6 : Int32) then r_Sh_firstCell_j35 n sh else if (sh_number sh) = (15 : Int32) then r_Sh_firstCell_j35 n sh else if (sh_number sh) = (17 : Int32) then r_Sh_firstCell_j35 n sh else r_Sh_firstCell_j40 n sh (0 : Int32)
def rm_Sh_firstCell : Jvm.Room := { frames := 0, cells := 0, slots := 0, locals := 0 }
set_option maxHeartbeats 4000000 in
set_option maxRecDepth 100000 in
theorem c_Sh_firstCell {l : Launch} {D : va_G} {cI cL : ClassId} {ad : Nat → Nat} {ma : T_ma} {ko : T_ko} {sh : T_sh} {lo : T_lo} {de : T_de} {wa : T_wa} {me : T_me} {ru : T_ru} {ws0 : va_W} {sz n : Nat}  {r9 : Int32} (hw : ws0 = (wX cI cL ad ma ko sh lo de wa me ru)) (h : r_Sh_firstCell n sh  = some r9) : Met l y_Sh_firstCell (Cond.code y_Sh_firstCell b_Sh_firstCell 2 (some .int) :: TB) rm_Sh_firstCell (PreW D clX (tyX cI cL) ws0 [.ref (ad 10)] sz) (PstI D clX (tyX cI cL) ws0 (wX cI cL ad ma ko sh lo de wa me ru) sz r9) 0 0 (va_A ws0 sz) := by
  refine k_met (by decide) (Nat.le_of_ble_eq_true rfl) ?_
  intro p e s m below meth c ls hx hb hr hml hts hown hlk hnm hsz hP hK hD hA hz hl
  have hP : va_P D clX (wX cI cL ad ma ko sh lo de wa me ru) s.heap := by rw [← hw]; exact hP
  have hD : va_D (va_A ws0 sz) (wX cI cL ad ma ko sh lo de wa me ru) := by rw [← hw]; exact hD
  have hS : va_S (va_A ws0 sz) s.heap s.heap [] := va_S.rf
  have hl : lv_has ls 2 [(0, .ref (ad 10))] := hl
  generalize hQ : MQ below (PstI D clX (tyX cI cL) ws0 (wX cI cL ad ma ko sh lo de wa me ru) sz r9) [.ref (ad 10)].toArray s 0 0 (va_A ws0 sz) = Q
  have J40 : ∀ (y0 : Int32) (H : Heap) (locs : List Loc) (ls : Array Slot), r_Sh_firstCell_j40 n sh y0 = some r9 → va_P D clX (wX cI cL ad ma ko sh lo de wa me ru) H → va_D (va_A ws0 sz) (wX cI cL ad ma ko sh lo de wa me ru) → va_S (va_A ws0 sz) s.heap H locs → lv_has ls 2 [(0, .ref (ad 10))] → W p l e rm_Sh_firstCell s m [.ref (ad 10)].toArray below meth c H locs 0 0 Q (F0 m 40 ls [.int y0]) := by
    intro y0 H locs ls h hP hD hS hl
    unfold r_Sh_firstCell_j40 at h
    refine lv_istore_n (lv' := [(1, .int y0), (0, .ref (ad 10))]) hx hb d_Sh_firstCell_40 rfl hl (by decide) rfl (fun ls hl => ?_)
    refine lv_iload_n hx hb d_Sh_firstCell_41 rfl (lv_at hl 0 rfl) ?_
    refine lv_if_eq (tgt := 52) hx hb d_Sh_firstCell_42 (by decide) (fun c1 => ?_) (fun c1 => ?_)
    · rw [if_pos c1] at h
      refine lv_aload_n hx hb d_Sh_firstCell_52 rfl (lv_at hl 1 rfl) ?_
      refine rd_Sh_a hx hb hts hown hK hP lk_70 (v := (sh_a sh)) rfl d_Sh_firstCell_53 ?_
      cases h
      subst hQ
      exact k_iret hx hb hr hlk hP hK hD hS d_Sh_firstCell_56
    · rw [if_neg c1] at h
      refine lv_aload_n hx hb d_Sh_firstCell_45 rfl (lv_at hl 1 rfl) ?_
      refine rd_Sh_b hx hb hts hown hK hP lk_71 (v := (sh_b sh)) rfl d_Sh_firstCell_46 ?_
      refine lv_goto (tgt := 56) hx hb d_Sh_firstCell_49 (by decide) ?_
      cases h
      subst hQ
      exact k_iret hx hb hr hlk hP hK hD hS d_Sh_firstCell_56
  have J35 : ∀ (H : Heap) (locs : List Loc) (ls : Array Slot), r_Sh_firstCell_j35 n sh = some r9 → va_P D clX (wX cI cL ad ma ko sh lo de wa me ru) H → va_D (va_A ws0 sz) (wX cI cL ad ma ko sh lo de wa me ru) → va_S (va_A ws0 sz) s.heap H locs → lv_has ls 2 [(0, .ref (ad 10))] → W p l e rm_Sh_firstCell s m [.ref (ad 10)].toArray below meth c H locs 0 0 Q (F0 m 35 ls []) := by
    intro H locs ls h hP hD hS hl
    unfold r_Sh_firstCell_j35 at h
    refine lv_iconst (v := 1) hx hb d_Sh_firstCell_35 (by decide) ?_
    refine lv_goto (tgt := 40) hx hb d_Sh_firstCell_36 (by decide) ?_
    exact J40 _ _ _ _ h hP hD hS (lv_sub hl [0] rfl)
  unfold r_Sh_firstCell at h
  refine lv_aload_n hx hb d_Sh_firstCell_0 rfl (lv_at hl 0 rfl) ?_
  refine rd_Sh_number hx hb hts hown hK hP lk_69 (v := (sh_number sh)) rfl d_Sh_firstCell_1 ?_
  refine lv_iconst (v := 5) hx hb d_Sh_firstCell_4 (by decide) ?_
  refine lv_icmp_eq (tgt := 35) hx hb d_Sh_firstCell_5 (by decide) (fun c2 => ?_) (fun c2 => ?_)
  · rw [if_pos c2] at h
    exact J35 _ _ _ h hP hD hS (lv_sub hl [0] rfl)
  · rw [if_neg c2] at h
    refine lv_aload_n hx hb d_Sh_firstCell_8 rfl (lv_at hl 0 rfl) ?_
    refine rd_Sh_number hx hb hts hown hK hP lk_69 (v := (sh_number sh)) rfl d_Sh_firstCell_9 ?_
    refine lv_bipush (v := 6) hx hb d_Sh_firstCell_12 (by decide) ?_
    refine lv_icmp_eq (tgt := 35) hx hb d_Sh_firstCell_14 (by decide) (fun c3 => ?_) (fun c3 => ?_)
    · rw [if_pos c3] at h
      exact J35 _ _ _ h hP hD hS (lv_sub hl [0] rfl)
    · rw [if_neg c3] at h
      refine lv_aload_n hx hb d_Sh_firstCell_17 rfl (lv_at hl 0 rfl) ?_
      refine rd_Sh_number hx hb hts hown hK hP lk_69 (v := (sh_number sh)) rfl d_Sh_firstCell_18 ?_
      refine lv_bipush (v := 15) hx hb d_Sh_firstCell_21 (by decide) ?_
      refine lv_icmp_eq (tgt := 35) hx hb d_Sh_firstCell_23 (by decide) (fun c4 => ?_) (fun c4 => ?_)
      · rw [if_pos c4] at h
        exact J35 _ _ _ h hP hD hS (lv_sub hl [0] rfl)
      · rw [if_neg c4] at h
        refine lv_aload_n hx hb d_Sh_firstCell_26 rfl (lv_at hl 0 rfl) ?_
        refine rd_Sh_number hx hb hts hown hK hP lk_69 (v := (sh_number sh)) rfl d_Sh_firstCell_27 ?_
        refine lv_bipush (v := 17) hx hb d_Sh_firstCell_30 (by decide) ?_
        refine lv_icmp_ne (tgt := 39) hx hb d_Sh_firstCell_32 (by decide) (fun c5 => ?_) (fun c5 => ?_)
        · rw [if_neg c5] at h
          refine lv_iconst (v := 0) hx hb d_Sh_firstCell_39 (by decide) ?_
          exact J40 _ _ _ _ h hP hD hS (lv_sub hl [0] rfl)
        · rw [if_pos c5] at h
          exact J35 _ _ _ h hP hD hS (lv_sub hl [0] rfl)
theorem d_Sh_howManyCells_0 : decode b_Sh_howManyCells 0 = .ok (.aload_n 0, 1) := by decide +kernel
theorem d_Sh_howManyCells_1 : decode b_Sh_howManyCells 1 = .ok (.getfield 65, 3) := by decide +kernel
theorem d_Sh_howManyCells_4 : decode b_Sh_howManyCells 4 = .ok (.tableswitch 118 1 17 #[84, 84, 86, 86, 84, 84, 118, 118, 118, 118, 118, 84, 84, 118, 91, 118, 103], 84) := by decide +kernel
theorem d_Sh_howManyCells_88 : decode b_Sh_howManyCells 88 = .ok (.iconst 1, 1) := by decide +kernel
theorem d_Sh_howManyCells_89 : decode b_Sh_howManyCells 89 = .ok (.ireturn, 1) := by decide +kernel
theorem d_Sh_howManyCells_90 : decode b_Sh_howManyCells 90 = .ok (.aload_n 0, 1) := by decide +kernel
theorem d_Sh_howManyCells_91 : decode b_Sh_howManyCells 91 = .ok (.getfield 83, 3) := by decide +kernel
theorem d_Sh_howManyCells_94 : decode b_Sh_howManyCells 94 = .ok (.ireturn, 1) := by decide +kernel
theorem d_Sh_howManyCells_95 : decode b_Sh_howManyCells 95 = .ok (.aload_n 0, 1) := by decide +kernel
theorem d_Sh_howManyCells_96 : decode b_Sh_howManyCells 96 = .ok (.getfield 9, 3) := by decide +kernel
theorem d_Sh_howManyCells_99 : decode b_Sh_howManyCells 99 = .ok (.aload_n 0, 1) := by decide +kernel
theorem d_Sh_howManyCells_100 : decode b_Sh_howManyCells 100 = .ok (.getfield 71, 3) := by decide +kernel
theorem d_Sh_howManyCells_103 : decode b_Sh_howManyCells 103 = .ok (.invokevirtual 40, 3) := by decide +kernel
theorem d_Sh_howManyCells_106 : decode b_Sh_howManyCells 106 = .ok (.ireturn, 1) := by decide +kernel
theorem d_Sh_howManyCells_107 : decode b_Sh_howManyCells 107 = .ok (.aload_n 0, 1) := by decide +kernel
theorem d_Sh_howManyCells_108 : decode b_Sh_howManyCells 108 = .ok (.getfield 71, 3) := by decide +kernel
theorem d_Sh_howManyCells_111 : decode b_Sh_howManyCells 111 = .ok (.iconst 4, 1) := by decide +kernel
theorem d_Sh_howManyCells_112 : decode b_Sh_howManyCells 112 = .ok (.if_icmp .gt 8, 3) := by decide +kernel
theorem d_Sh_howManyCells_115 : decode b_Sh_howManyCells 115 = .ok (.bipush 6, 2) := by decide +kernel
theorem d_Sh_howManyCells_117 : decode b_Sh_howManyCells 117 = .ok (.goto 4, 3) := by decide +kernel
theorem d_Sh_howManyCells_120 : decode b_Sh_howManyCells 120 = .ok (.iconst 3, 1) := by decide +kernel
theorem d_Sh_howManyCells_121 : decode b_Sh_howManyCells 121 = .ok (.ireturn, 1) := by decide +kernel
theorem d_Sh_howManyCells_122 : decode b_Sh_howManyCells 122 = .ok (.iconst (-1), 1) := by decide +kernel
theorem d_Sh_howManyCells_123 : decode b_Sh_howManyCells 123 = .ok (.ireturn, 1) := by decide +kernel
def r_Sh_howManyCells (n : Nat) (ko : T_ko) (sh : T_sh)  : Option (Int32) := if (sh_number sh) = (1 : Int32) then some ((1 : Int32)) else if (sh_number sh) = (2 : Int32) then some ((1 : Int32)) else if (sh_number sh) = (3 : Int32) then some ((sh_c sh)) else if (sh_number sh) = (4 : Int32) then some ((sh_c sh)) else if (sh_number sh) = (5 : Int32) then some ((1 : Int32)) else if (sh_number sh) = (6 : Int32) then some ((1 : Int32)) else if (sh_number sh) = (12 : Int32) then some ((1 : Int32)) else if (sh_number sh) = (13 : Int32) then some ((1 : Int32)) else if (sh_number sh) = (15 : Int32) then (r_Co_frameOf n ko (sh_a sh)).bind (fun q10 => some (q10)) else if (sh_number sh) = (17 : Int32) then if (4 : Int32) < (sh_a sh) then some ((3 : Int32)) else some ((6 : Int32)) else some ((-1 : Int32))
def rm_Sh_howManyCells : Jvm.Room := { frames := 2, cells := 0, slots := 0, locals := 42 }
set_option maxHeartbeats 4000000 in
set_option maxRecDepth 100000 in
theorem c_Sh_howManyCells {l : Launch} {D : va_G} {cI cL : ClassId} {ad : Nat → Nat} {ma : T_ma} {ko : T_ko} {sh : T_sh} {lo : T_lo} {de : T_de} {wa : T_wa} {me : T_me} {ru : T_ru} {ws0 : va_W} {sz n : Nat}  {r9 : Int32} (hw : ws0 = (wX cI cL ad ma ko sh lo de wa me ru)) (h : r_Sh_howManyCells n ko sh  = some r9) : Met l y_Sh_howManyCells (Cond.code y_Sh_howManyCells b_Sh_howManyCells 1 (some .int) :: TB) rm_Sh_howManyCells (PreW D clX (tyX cI cL) ws0 [.ref (ad 10)] sz) (PstI D clX (tyX cI cL) ws0 (wX cI cL ad ma ko sh lo de wa me ru) sz r9) 0 0 (va_A ws0 sz) := by
  refine k_met (by decide) (Nat.le_of_ble_eq_true rfl) ?_
  intro p e s m below meth c ls hx hb hr hml hts hown hlk hnm hsz hP hK hD hA hz hl
  have hP : va_P D clX (wX cI cL ad ma ko sh lo de wa me ru) s.heap := by rw [← hw]; exact hP
  have hD : va_D (va_A ws0 sz) (wX cI cL ad ma ko sh lo de wa me ru) := by rw [← hw]; exact hD
  have hS : va_S (va_A ws0 sz) s.heap s.heap [] := va_S.rf
  have hl : lv_has ls 1 [(0, .ref (ad 10))] := hl
  generalize hQ : MQ below (PstI D clX (tyX cI cL) ws0 (wX cI cL ad ma ko sh lo de wa me ru) sz r9) [.ref (ad 10)].toArray s 0 0 (va_A ws0 sz) = Q
  unfold r_Sh_howManyCells at h
  refine lv_aload_n hx hb d_Sh_howManyCells_0 rfl (lv_at hl 0 rfl) ?_
  refine rd_Sh_number hx hb hts hown hK hP lk_69 (v := (sh_number sh)) rfl d_Sh_howManyCells_1 ?_
  by_cases c1 : (sh_number sh) = (1 : Int32)
  · rw [if_pos c1] at h
    refine k_sw c1 ?_
    refine lv_tableIn (tgt := 88) hx hb d_Sh_howManyCells_4 (by decide) (by decide) rfl (by decide) ?_
    refine lv_iconst (v := 1) hx hb d_Sh_howManyCells_88 (by decide) ?_
    cases h
    subst hQ
    exact k_iret hx hb hr hlk hP hK hD hS d_Sh_howManyCells_89
  · rw [if_neg c1] at h
    by_cases c2 : (sh_number sh) = (2 : Int32)
    · rw [if_pos c2] at h
      refine k_sw c2 ?_
      refine lv_tableIn (tgt := 88) hx hb d_Sh_howManyCells_4 (by decide) (by decide) rfl (by decide) ?_
      refine lv_iconst (v := 1) hx hb d_Sh_howManyCells_88 (by decide) ?_
      cases h
      subst hQ
      exact k_iret hx hb hr hlk hP hK hD hS d_Sh_howManyCells_89
    · rw [if_neg c2] at h
      by_cases c3 : (sh_number sh) = (3 : Int32)
      · rw [if_pos c3] at h
        refine k_sw c3 ?_
        refine lv_tableIn (tgt := 90) hx hb d_Sh_howManyCells_4 (by decide) (by decide) rfl (by decide) ?_
        refine lv_aload_n hx hb d_Sh_howManyCells_90 rfl (lv_at hl 0 rfl) ?_
        refine rd_Sh_c hx hb hts hown hK hP lk_72 (v := (sh_c sh)) rfl d_Sh_howManyCells_91 ?_
        cases h
        subst hQ
        exact k_iret hx hb hr hlk hP hK hD hS d_Sh_howManyCells_94
      · rw [if_neg c3] at h
        by_cases c4 : (sh_number sh) = (4 : Int32)
        · rw [if_pos c4] at h
          refine k_sw c4 ?_
          refine lv_tableIn (tgt := 90) hx hb d_Sh_howManyCells_4 (by decide) (by decide) rfl (by decide) ?_
          refine lv_aload_n hx hb d_Sh_howManyCells_90 rfl (lv_at hl 0 rfl) ?_
          refine rd_Sh_c hx hb hts hown hK hP lk_72 (v := (sh_c sh)) rfl d_Sh_howManyCells_91 ?_
          cases h
          subst hQ
          exact k_iret hx hb hr hlk hP hK hD hS d_Sh_howManyCells_94
        · rw [if_neg c4] at h
          by_cases c5 : (sh_number sh) = (5 : Int32)
          · rw [if_pos c5] at h
            refine k_sw c5 ?_
            refine lv_tableIn (tgt := 88) hx hb d_Sh_howManyCells_4 (by decide) (by decide) rfl (by decide) ?_
            refine lv_iconst (v := 1) hx hb d_Sh_howManyCells_88 (by decide) ?_
            cases h
            subst hQ
            exact k_iret hx hb hr hlk hP hK hD hS d_Sh_howManyCells_89
          · rw [if_neg c5] at h
            by_cases c6 : (sh_number sh) = (6 : Int32)
            · rw [if_pos c6] at h
              refine k_sw c6 ?_
              refine lv_tableIn (tgt := 88) hx hb d_Sh_howManyCells_4 (by decide) (by decide) rfl (by decide) ?_
              refine lv_iconst (v := 1) hx hb d_Sh_howManyCells_88 (by decide) ?_
              cases h
              subst hQ
              exact k_iret hx hb hr hlk hP hK hD hS d_Sh_howManyCells_89
            · rw [if_neg c6] at h
              by_cases c7 : (sh_number sh) = (12 : Int32)
              · rw [if_pos c7] at h
                refine k_sw c7 ?_
                refine lv_tableIn (tgt := 88) hx hb d_Sh_howManyCells_4 (by decide) (by decide) rfl (by decide) ?_
                refine lv_iconst (v := 1) hx hb d_Sh_howManyCells_88 (by decide) ?_
                cases h
                subst hQ
                exact k_iret hx hb hr hlk hP hK hD hS d_Sh_howManyCells_89
              · rw [if_neg c7] at h
                by_cases c8 : (sh_number sh) = (13 : Int32)
                · rw [if_pos c8] at h
                  refine k_sw c8 ?_
                  refine lv_tableIn (tgt := 88) hx hb d_Sh_howManyCells_4 (by decide) (by decide) rfl (by decide) ?_
                  refine lv_iconst (v := 1) hx hb d_Sh_howManyCells_88 (by decide) ?_
                  cases h
                  subst hQ
                  exact k_iret hx hb hr hlk hP hK hD hS d_Sh_howManyCells_89
                · rw [if_neg c8] at h
                  by_cases c9 : (sh_number sh) = (15 : Int32)
                  · rw [if_pos c9] at h
                    refine k_sw c9 ?_
                    refine lv_tableIn (tgt := 95) hx hb d_Sh_howManyCells_4 (by decide) (by decide) rfl (by decide) ?_
                    refine lv_aload_n hx hb d_Sh_howManyCells_95 rfl (lv_at hl 0 rfl) ?_
                    refine rd_Sh_code hx hb hts hown hK hP lk_66 d_Sh_howManyCells_96 ?_
                    refine lv_aload_n hx hb d_Sh_howManyCells_99 rfl (lv_at hl 0 rfl) ?_
                    refine rd_Sh_a hx hb hts hown hK hP lk_70 (v := (sh_a sh)) rfl d_Sh_howManyCells_100 ?_
                    obtain ⟨q10, hq10, h⟩ := Option.bind_eq_some_iff.mp h
                    refine k_I (k_runVN ⟨hx, hb, hml, hown, hts⟩ (c_Co_frameOf rfl hq10) ok_Co_frameOf is_Co_frameOf lk_340 rfl rfl ⟨by decide, by decide⟩ hP hK hD hS hA hz (ci := 1) (q0 := 1) rfl rfl ob_Co rfl hl.1 rfl (Nat.le_of_ble_eq_true rfl) d_Sh_howManyCells_103 ⟨Nat.zero_le _, Nat.zero_le _⟩) hD hS hA (fun H locs hP hD hS => ?_)
                    cases h
                    subst hQ
                    exact k_iret hx hb hr hlk hP hK hD hS d_Sh_howManyCells_106
                  · rw [if_neg c9] at h
                    by_cases c11 : (sh_number sh) = (17 : Int32)
                    · rw [if_pos c11] at h
                      refine k_sw c11 ?_
                      refine lv_tableIn (tgt := 107) hx hb d_Sh_howManyCells_4 (by decide) (by decide) rfl (by decide) ?_
                      refine lv_aload_n hx hb d_Sh_howManyCells_107 rfl (lv_at hl 0 rfl) ?_
                      refine rd_Sh_a hx hb hts hown hK hP lk_70 (v := (sh_a sh)) rfl d_Sh_howManyCells_108 ?_
                      refine lv_iconst (v := 4) hx hb d_Sh_howManyCells_111 (by decide) ?_
                      refine lv_icmp_gt (tgt := 120) hx hb d_Sh_howManyCells_112 (by decide) (fun c12 => ?_) (fun c12 => ?_)
                      · rw [if_pos c12] at h
                        refine lv_iconst (v := 3) hx hb d_Sh_howManyCells_120 (by decide) ?_
                        cases h
                        subst hQ
                        exact k_iret hx hb hr hlk hP hK hD hS d_Sh_howManyCells_121
                      · rw [if_neg c12] at h
                        refine lv_bipush (v := 6) hx hb d_Sh_howManyCells_115 (by decide) ?_
                        refine lv_goto (tgt := 121) hx hb d_Sh_howManyCells_117 (by decide) ?_
                        cases h
                        subst hQ
                        exact k_iret hx hb hr hlk hP hK hD hS d_Sh_howManyCells_121
                    · rw [if_neg c11] at h
                      by_cases c13 : (sh_number sh) = (7 : Int32)
                      · refine k_sw c13 ?_
                        refine lv_tableIn (tgt := 122) hx hb d_Sh_howManyCells_4 (by decide) (by decide) rfl (by decide) ?_
                        refine lv_iconst (v := -1) hx hb d_Sh_howManyCells_122 (by decide) ?_
                        cases h
                        subst hQ
                        exact k_iret hx hb hr hlk hP hK hD hS d_Sh_howManyCells_123
                      ·
                        by_cases c14 : (sh_number sh) = (8 : Int32)
                        · refine k_sw c14 ?_
                          refine lv_tableIn (tgt := 122) hx hb d_Sh_howManyCells_4 (by decide) (by decide) rfl (by decide) ?_
                          refine lv_iconst (v := -1) hx hb d_Sh_howManyCells_122 (by decide) ?_
                          cases h
                          subst hQ
                          exact k_iret hx hb hr hlk hP hK hD hS d_Sh_howManyCells_123
                        ·
                          by_cases c15 : (sh_number sh) = (9 : Int32)
                          · refine k_sw c15 ?_
                            refine lv_tableIn (tgt := 122) hx hb d_Sh_howManyCells_4 (by decide) (by decide) rfl (by decide) ?_
                            refine lv_iconst (v := -1) hx hb d_Sh_howManyCells_122 (by decide) ?_
                            cases h
                            subst hQ
                            exact k_iret hx hb hr hlk hP hK hD hS d_Sh_howManyCells_123
                          ·
                            by_cases c16 : (sh_number sh) = (10 : Int32)
                            · refine k_sw c16 ?_
                              refine lv_tableIn (tgt := 122) hx hb d_Sh_howManyCells_4 (by decide) (by decide) rfl (by decide) ?_
                              refine lv_iconst (v := -1) hx hb d_Sh_howManyCells_122 (by decide) ?_
                              cases h
                              subst hQ
                              exact k_iret hx hb hr hlk hP hK hD hS d_Sh_howManyCells_123
                            ·
                              by_cases c17 : (sh_number sh) = (11 : Int32)
                              · refine k_sw c17 ?_
                                refine lv_tableIn (tgt := 122) hx hb d_Sh_howManyCells_4 (by decide) (by decide) rfl (by decide) ?_
                                refine lv_iconst (v := -1) hx hb d_Sh_howManyCells_122 (by decide) ?_
                                cases h
                                subst hQ
                                exact k_iret hx hb hr hlk hP hK hD hS d_Sh_howManyCells_123
                              ·
                                by_cases c18 : (sh_number sh) = (14 : Int32)
                                · refine k_sw c18 ?_
                                  refine lv_tableIn (tgt := 122) hx hb d_Sh_howManyCells_4 (by decide) (by decide) rfl (by decide) ?_
                                  refine lv_iconst (v := -1) hx hb d_Sh_howManyCells_122 (by decide) ?_
                                  cases h
                                  subst hQ
                                  exact k_iret hx hb hr hlk hP hK hD hS d_Sh_howManyCells_123
                                ·
                                  by_cases c19 : (sh_number sh) = (16 : Int32)
                                  · refine k_sw c19 ?_
                                    refine lv_tableIn (tgt := 122) hx hb d_Sh_howManyCells_4 (by decide) (by decide) rfl (by decide) ?_
                                    refine lv_iconst (v := -1) hx hb d_Sh_howManyCells_122 (by decide) ?_
                                    cases h
                                    subst hQ
                                    exact k_iret hx hb hr hlk hP hK hD hS d_Sh_howManyCells_123
                                  ·
                                    refine lv_tableOut (tgt := 122) hx hb d_Sh_howManyCells_4 (by have ec1 := lv_neT c1 (a := 1) (by decide); have ec2 := lv_neT c2 (a := 2) (by decide); have ec3 := lv_neT c3 (a := 3) (by decide); have ec4 := lv_neT c4 (a := 4) (by decide); have ec5 := lv_neT c5 (a := 5) (by decide); have ec6 := lv_neT c6 (a := 6) (by decide); have ec7 := lv_neT c7 (a := 12) (by decide); have ec8 := lv_neT c8 (a := 13) (by decide); have ec9 := lv_neT c9 (a := 15) (by decide); have ec11 := lv_neT c11 (a := 17) (by decide); have ec13 := lv_neT c13 (a := 7) (by decide); have ec14 := lv_neT c14 (a := 8) (by decide); have ec15 := lv_neT c15 (a := 9) (by decide); have ec16 := lv_neT c16 (a := 10) (by decide); have ec17 := lv_neT c17 (a := 11) (by decide); have ec18 := lv_neT c18 (a := 14) (by decide); have ec19 := lv_neT c19 (a := 16) (by decide); omega) (by decide) ?_
                                    refine lv_iconst (v := -1) hx hb d_Sh_howManyCells_122 (by decide) ?_
                                    cases h
                                    subst hQ
                                    exact k_iret hx hb hr hlk hP hK hD hS d_Sh_howManyCells_123
theorem d_Sh_touchesCounter_0 : decode b_Sh_touchesCounter 0 = .ok (.aload_n 0, 1) := by decide +kernel
theorem d_Sh_touchesCounter_1 : decode b_Sh_touchesCounter 1 = .ok (.invokevirtual 103, 3) := by decide +kernel
theorem d_Sh_touchesCounter_4 : decode b_Sh_touchesCounter 4 = .ok (.istore_n 1, 1) := by decide +kernel
theorem d_Sh_touchesCounter_5 : decode b_Sh_touchesCounter 5 = .ok (.aload_n 0, 1) := by decide +kernel
theorem d_Sh_touchesCounter_6 : decode b_Sh_touchesCounter 6 = .ok (.getfield 65, 3) := by decide +kernel
theorem d_Sh_touchesCounter_9 : decode b_Sh_touchesCounter 9 = .ok (.bipush 12, 2) := by decide +kernel
theorem d_Sh_touchesCounter_11 : decode b_Sh_touchesCounter 11 = .ok (.if_icmp .eq 17, 3) := by decide +kernel
theorem d_Sh_touchesCounter_14 : decode b_Sh_touchesCounter 14 = .ok (.aload_n 0, 1) := by decide +kernel
theorem d_Sh_touchesCounter_15 : decode b_Sh_touchesCounter 15 = .ok (.getfield 65, 3) := by decide +kernel
theorem d_Sh_touchesCounter_18 : decode b_Sh_touchesCounter 18 = .ok (.bipush 13, 2) := by decide +kernel
theorem d_Sh_touchesCounter_20 : decode b_Sh_touchesCounter 20 = .ok (.if_icmp .eq 8, 3) := by decide +kernel
theorem d_Sh_touchesCounter_23 : decode b_Sh_touchesCounter 23 = .ok (.iload_n 1, 1) := by decide +kernel
theorem d_Sh_touchesCounter_24 : decode b_Sh_touchesCounter 24 = .ok (.iconst (-1), 1) := by decide +kernel
theorem d_Sh_touchesCounter_25 : decode b_Sh_touchesCounter 25 = .ok (.if_icmp .ne 5, 3) := by decide +kernel
theorem d_Sh_touchesCounter_28 : decode b_Sh_touchesCounter 28 = .ok (.iconst 0, 1) := by decide +kernel
theorem d_Sh_touchesCounter_29 : decode b_Sh_touchesCounter 29 = .ok (.ireturn, 1) := by decide +kernel
theorem d_Sh_touchesCounter_30 : decode b_Sh_touchesCounter 30 = .ok (.aload_n 0, 1) := by decide +kernel
theorem d_Sh_touchesCounter_31 : decode b_Sh_touchesCounter 31 = .ok (.invokevirtual 106, 3) := by decide +kernel
theorem d_Sh_touchesCounter_34 : decode b_Sh_touchesCounter 34 = .ok (.istore_n 2, 1) := by decide +kernel
theorem d_Sh_touchesCounter_35 : decode b_Sh_touchesCounter 35 = .ok (.aload_n 0, 1) := by decide +kernel
theorem d_Sh_touchesCounter_36 : decode b_Sh_touchesCounter 36 = .ok (.invokevirtual 109, 3) := by decide +kernel
theorem d_Sh_touchesCounter_39 : decode b_Sh_touchesCounter 39 = .ok (.istore_n 3, 1) := by decide +kernel
theorem d_Sh_touchesCounter_40 : decode b_Sh_touchesCounter 40 = .ok (.aload_n 0, 1) := by decide +kernel
theorem d_Sh_touchesCounter_41 : decode b_Sh_touchesCounter 41 = .ok (.getfield 9, 3) := by decide +kernel
theorem d_Sh_touchesCounter_44 : decode b_Sh_touchesCounter 44 = .ok (.iload_n 3, 1) := by decide +kernel
theorem d_Sh_touchesCounter_45 : decode b_Sh_touchesCounter 45 = .ok (.invokevirtual 23, 3) := by decide +kernel
theorem d_Sh_touchesCounter_48 : decode b_Sh_touchesCounter 48 = .ok (.istore 4, 2) := by decide +kernel
theorem d_Sh_touchesCounter_50 : decode b_Sh_touchesCounter 50 = .ok (.iconst 0, 1) := by decide +kernel
theorem d_Sh_touchesCounter_51 : decode b_Sh_touchesCounter 51 = .ok (.istore 5, 2) := by decide +kernel
theorem d_Sh_touchesCounter_53 : decode b_Sh_touchesCounter 53 = .ok (.iload 5, 2) := by decide +kernel
theorem d_Sh_touchesCounter_55 : decode b_Sh_touchesCounter 55 = .ok (.iload 4, 2) := by decide +kernel
theorem d_Sh_touchesCounter_57 : decode b_Sh_touchesCounter 57 = .ok (.if_icmp .ge 67, 3) := by decide +kernel
theorem d_Sh_touchesCounter_60 : decode b_Sh_touchesCounter 60 = .ok (.aload_n 0, 1) := by decide +kernel
theorem d_Sh_touchesCounter_61 : decode b_Sh_touchesCounter 61 = .ok (.getfield 9, 3) := by decide +kernel
theorem d_Sh_touchesCounter_64 : decode b_Sh_touchesCounter 64 = .ok (.iload_n 3, 1) := by decide +kernel
theorem d_Sh_touchesCounter_65 : decode b_Sh_touchesCounter 65 = .ok (.iload 5, 2) := by decide +kernel
theorem d_Sh_touchesCounter_67 : decode b_Sh_touchesCounter 67 = .ok (.invokevirtual 62, 3) := by decide +kernel
theorem d_Sh_touchesCounter_70 : decode b_Sh_touchesCounter 70 = .ok (.istore 6, 2) := by decide +kernel
theorem d_Sh_touchesCounter_72 : decode b_Sh_touchesCounter 72 = .ok (.aload_n 0, 1) := by decide +kernel
theorem d_Sh_touchesCounter_73 : decode b_Sh_touchesCounter 73 = .ok (.getfield 9, 3) := by decide +kernel
theorem d_Sh_touchesCounter_76 : decode b_Sh_touchesCounter 76 = .ok (.iload_n 3, 1) := by decide +kernel
theorem d_Sh_touchesCounter_77 : decode b_Sh_touchesCounter 77 = .ok (.iload 5, 2) := by decide +kernel
theorem d_Sh_touchesCounter_79 : decode b_Sh_touchesCounter 79 = .ok (.invokevirtual 68, 3) := by decide +kernel
theorem d_Sh_touchesCounter_82 : decode b_Sh_touchesCounter 82 = .ok (.istore 7, 2) := by decide +kernel
theorem d_Sh_touchesCounter_84 : decode b_Sh_touchesCounter 84 = .ok (.iload 6, 2) := by decide +kernel
theorem d_Sh_touchesCounter_86 : decode b_Sh_touchesCounter 86 = .ok (.bipush 12, 2) := by decide +kernel
theorem d_Sh_touchesCounter_88 : decode b_Sh_touchesCounter 88 = .ok (.if_icmp .eq 10, 3) := by decide +kernel
theorem d_Sh_touchesCounter_91 : decode b_Sh_touchesCounter 91 = .ok (.iload 6, 2) := by decide +kernel
theorem d_Sh_touchesCounter_93 : decode b_Sh_touchesCounter 93 = .ok (.bipush 13, 2) := by decide +kernel
theorem d_Sh_touchesCounter_95 : decode b_Sh_touchesCounter 95 = .ok (.if_icmp .ne 23, 3) := by decide +kernel
theorem d_Sh_touchesCounter_98 : decode b_Sh_touchesCounter 98 = .ok (.iload 7, 2) := by decide +kernel
theorem d_Sh_touchesCounter_100 : decode b_Sh_touchesCounter 100 = .ok (.iload_n 2, 1) := by decide +kernel
theorem d_Sh_touchesCounter_101 : decode b_Sh_touchesCounter 101 = .ok (.if_icmp .lt 17, 3) := by decide +kernel
theorem d_Sh_touchesCounter_104 : decode b_Sh_touchesCounter 104 = .ok (.iload 7, 2) := by decide +kernel
theorem d_Sh_touchesCounter_106 : decode b_Sh_touchesCounter 106 = .ok (.i2l, 1) := by decide +kernel
theorem d_Sh_touchesCounter_107 : decode b_Sh_touchesCounter 107 = .ok (.iload_n 2, 1) := by decide +kernel
theorem d_Sh_touchesCounter_108 : decode b_Sh_touchesCounter 108 = .ok (.i2l, 1) := by decide +kernel
theorem d_Sh_touchesCounter_109 : decode b_Sh_touchesCounter 109 = .ok (.iload_n 1, 1) := by decide +kernel
theorem d_Sh_touchesCounter_110 : decode b_Sh_touchesCounter 110 = .ok (.i2l, 1) := by decide +kernel
theorem d_Sh_touchesCounter_111 : decode b_Sh_touchesCounter 111 = .ok (.ladd, 1) := by decide +kernel
theorem d_Sh_touchesCounter_112 : decode b_Sh_touchesCounter 112 = .ok (.lcmp, 1) := by decide +kernel
theorem d_Sh_touchesCounter_113 : decode b_Sh_touchesCounter 113 = .ok (.ifCond .ge 5, 3) := by decide +kernel
theorem d_Sh_touchesCounter_116 : decode b_Sh_touchesCounter 116 = .ok (.iconst 1, 1) := by decide +kernel
theorem d_Sh_touchesCounter_117 : decode b_Sh_touchesCounter 117 = .ok (.ireturn, 1) := by decide +kernel
theorem d_Sh_touchesCounter_118 : decode b_Sh_touchesCounter 118 = .ok (.iinc 5 1, 3) := by decide +kernel
theorem d_Sh_touchesCounter_121 : decode b_Sh_touchesCounter 121 = .ok (.goto (-68), 3) := by decide +kernel
theorem d_Sh_touchesCounter_124 : decode b_Sh_touchesCounter 124 = .ok (.iconst 0, 1) := by decide +kernel
theorem d_Sh_touchesCounter_125 : decode b_Sh_touchesCounter 125 = .ok (.ireturn, 1) := by decide +kernel
def r_Sh_touchesCounter_j98 (n : Nat) (ko : T_ko) (sh : T_sh) (k53 : Int32 → Int32 → Int32 → Int32 → Int32 → Option (Int32)) (x1 : Int32) (x2 : Int32) (x3 : Int32) (x4 : Int32) (x5 : Int32) (x7 : Int32) : Option (Int32) := if x7 < x2 then k53 x1 x2 x3 x4 (x5 + 1) else if 0 ≤ (lg_cmp x7.toInt64 (x2.toInt64 + x1.toInt64)) then k53 x1 x2 x3 x4 (x5 + 1) else some ((1 : Int32))
def r_Sh_touchesCounter_l53 (n : Nat) (ko : T_ko) (sh : T_sh)  : Nat → Int32 → Int32 → Int32 → Int32 → Int32 → Option (Int32)
  | 0, _, _, _, _, _ => none
  | f + 1, x1, x2, x3, x4, x5 => if x4 ≤ x5 then some ((0 : Int32)) else (r_Co_numberAt n ko x3 x5).bind (fun q4 => (r_Co_aAt n ko x3 x5).bind (fun q5 => if q4 = (12 : Int32) then r_Sh_touchesCounter_j98 n ko sh (r_Sh_touchesCounter_l53 n ko sh f) x1 x2 x3 x4 x5 q5 else if q4 = (13 : Int32) then r_Sh_touchesCounter_j98 n ko sh (r_Sh_touchesCounter_l53 n ko sh f) x1 x2 x3 x4 x5 q5 else (r_Sh_touchesCounter_l53 n ko sh f) x1 x2 x3 x4 (x5 + 1)))
def r_Sh_touchesCounter (n : Nat) (ko : T_ko) (sh : T_sh)  : Option (Int32) := (r_Sh_howManyCells n ko sh).bind (fun q8 => if (sh_number sh) = (12 : Int32) then some ((0 : Int32)) else if (sh_number sh) = (13 : Int32) then some ((0 : Int32)) else if q8 = (-1 : Int32) then some ((0 : Int32)) else (r_Sh_firstCell n sh).bind (fun q12 => (r_Sh_ownerOfCells n sh).bind (fun q13 => (r_Co_sizeOf n ko q13).bind (fun q14 => r_Sh_touchesCounter_l53 n ko sh n q8 q12 q13 q14 (0 : Int32)))))
def rm_Sh_touchesCounter : Jvm.Room := { frames := 3, cells := 0, slots := 0, locals := 62 }
set_option maxHeartbeats 4000000 in
set_option maxRecDepth 100000 in
theorem c_Sh_touchesCounter {l : Launch} {D : va_G} {cI cL : ClassId} {ad : Nat → Nat} {ma : T_ma} {ko : T_ko} {sh : T_sh} {lo : T_lo} {de : T_de} {wa : T_wa} {me : T_me} {ru : T_ru} {ws0 : va_W} {sz n : Nat}  {r9 : Int32} (hw : ws0 = (wX cI cL ad ma ko sh lo de wa me ru)) (h : r_Sh_touchesCounter n ko sh  = some r9) : Met l y_Sh_touchesCounter (Cond.code y_Sh_touchesCounter b_Sh_touchesCounter 8 (some .boolean) :: TB) rm_Sh_touchesCounter (PreW D clX (tyX cI cL) ws0 [.ref (ad 10)] sz) (PstI D clX (tyX cI cL) ws0 (wX cI cL ad ma ko sh lo de wa me ru) sz r9) 0 0 (va_A ws0 sz) := by
  refine k_met (by decide) (Nat.le_of_ble_eq_true rfl) ?_
  intro p e s m below meth c ls hx hb hr hml hts hown hlk hnm hsz hP hK hD hA hz hl
  have hP : va_P D clX (wX cI cL ad ma ko sh lo de wa me ru) s.heap := by rw [← hw]; exact hP
  have hD : va_D (va_A ws0 sz) (wX cI cL ad ma ko sh lo de wa me ru) := by rw [← hw]; exact hD
  have hS : va_S (va_A ws0 sz) s.heap s.heap [] := va_S.rf
  have hl : lv_has ls 8 [(0, .ref (ad 10))] := hl
  generalize hQ : MQ below (PstI D clX (tyX cI cL) ws0 (wX cI cL ad ma ko sh lo de wa me ru) sz r9) [.ref (ad 10)].toArray s 0 0 (va_A ws0 sz) = Q
  have L53 : ∀ (f53 : Nat), ∀ (x1 : Int32) (x2 : Int32) (x3 : Int32) (x4 : Int32) (x5 : Int32) (H : Heap) (locs : List Loc) (ls : Array Slot), r_Sh_touchesCounter_l53 n ko sh f53 x1 x2 x3 x4 x5 = some r9 → va_P D clX (wX cI cL ad ma ko sh lo de wa me ru) H → va_D (va_A ws0 sz) (wX cI cL ad ma ko sh lo de wa me ru) → va_S (va_A ws0 sz) s.heap H locs → lv_has ls 8 [(0, .ref (ad 10)), (1, .int x1), (2, .int x2), (3, .int x3), (4, .int x4), (5, .int x5)] → W p l e rm_Sh_touchesCounter s m [.ref (ad 10)].toArray below meth c H locs 0 0 Q (F0 m 53 ls []) := by
    intro f53
    induction f53 with
    | zero =>
      intro x1 x2 x3 x4 x5 H locs ls h hP hD hS hl
      exact absurd h (by intro h; cases h)
    | succ f53 ih53 =>
      have J98 : ∀ (x1 : Int32) (x2 : Int32) (x3 : Int32) (x4 : Int32) (x5 : Int32) (x7 : Int32) (H : Heap) (locs : List Loc) (ls : Array Slot), r_Sh_touchesCounter_j98 n ko sh (r_Sh_touchesCounter_l53 n ko sh f53) x1 x2 x3 x4 x5 x7 = some r9 → va_P D clX (wX cI cL ad ma ko sh lo de wa me ru) H → va_D (va_A ws0 sz) (wX cI cL ad ma ko sh lo de wa me ru) → va_S (va_A ws0 sz) s.heap H locs → lv_has ls 8 [(0, .ref (ad 10)), (1, .int x1), (2, .int x2), (3, .int x3), (4, .int x4), (5, .int x5), (7, .int x7)] → W p l e rm_Sh_touchesCounter s m [.ref (ad 10)].toArray below meth c H locs 0 0 Q (F0 m 98 ls []) := by
        intro x1 x2 x3 x4 x5 x7 H locs ls h hP hD hS hl
        unfold r_Sh_touchesCounter_j98 at h
        refine lv_iload hx hb d_Sh_touchesCounter_98 (lv_at hl 6 rfl) ?_
        refine lv_iload_n hx hb d_Sh_touchesCounter_100 rfl (lv_at hl 2 rfl) ?_
        refine lv_icmp_lt (tgt := 118) hx hb d_Sh_touchesCounter_101 (by decide) (fun c1 => ?_) (fun c1 => ?_)
        · rw [if_pos c1] at h
          refine lv_iinc (v := (x5 + 1)) (lv' := [(5, .int (x5 + 1)), (0, .ref (ad 10)), (1, .int x1), (2, .int x2), (3, .int x3), (4, .int x4), (7, .int x7)]) hx hb d_Sh_touchesCounter_118 hl (k := 5) rfl rfl (by decide) rfl (fun ls hl => ?_)
          refine lv_goto (tgt := 53) hx hb d_Sh_touchesCounter_121 (by decide) ?_
          exact ih53 _ _ _ _ _ _ _ _ h hP hD hS (lv_sub hl [1, 2, 3, 4, 5, 0] rfl)
        · rw [if_neg c1] at h
          refine lv_iload hx hb d_Sh_touchesCounter_104 (lv_at hl 6 rfl) ?_
          refine lv_i2l (v := x7.toInt64) hx hb d_Sh_touchesCounter_106 rfl ?_
          refine lv_iload_n hx hb d_Sh_touchesCounter_107 rfl (lv_at hl 2 rfl) ?_
          refine lv_i2l (v := x2.toInt64) hx hb d_Sh_touchesCounter_108 rfl ?_
          refine lv_iload_n hx hb d_Sh_touchesCounter_109 rfl (lv_at hl 1 rfl) ?_
          refine lv_i2l (v := x1.toInt64) hx hb d_Sh_touchesCounter_110 rfl ?_
          refine lv_ladd hx hb d_Sh_touchesCounter_111 ?_
          refine W.lcmp hx hb d_Sh_touchesCounter_112 ?_
          refine lv_if_ge (tgt := 118) hx hb d_Sh_touchesCounter_113 (by decide) (fun c2 => ?_) (fun c2 => ?_)
          · rw [if_pos c2] at h
            refine lv_iinc (v := (x5 + 1)) (lv' := [(5, .int (x5 + 1)), (0, .ref (ad 10)), (1, .int x1), (2, .int x2), (3, .int x3), (4, .int x4), (7, .int x7)]) hx hb d_Sh_touchesCounter_118 hl (k := 5) rfl rfl (by decide) rfl (fun ls hl => ?_)
            refine lv_goto (tgt := 53) hx hb d_Sh_touchesCounter_121 (by decide) ?_
            exact ih53 _ _ _ _ _ _ _ _ h hP hD hS (lv_sub hl [1, 2, 3, 4, 5, 0] rfl)
          · rw [if_neg c2] at h
            refine lv_iconst (v := 1) hx hb d_Sh_touchesCounter_116 (by decide) ?_
            cases h
            subst hQ
            exact k_zret hx hb hr hlk (Or.inr rfl) hP hK hD hS d_Sh_touchesCounter_117
      intro x1 x2 x3 x4 x5 H locs ls h hP hD hS hl
      rw [r_Sh_touchesCounter_l53] at h
      refine lv_iload hx hb d_Sh_touchesCounter_53 (lv_at hl 5 rfl) ?_
      refine lv_iload hx hb d_Sh_touchesCounter_55 (lv_at hl 4 rfl) ?_
      refine lv_icmp_ge (tgt := 124) hx hb d_Sh_touchesCounter_57 (by decide) (fun c3 => ?_) (fun c3 => ?_)
      · rw [if_pos c3] at h
        refine lv_iconst (v := 0) hx hb d_Sh_touchesCounter_124 (by decide) ?_
        cases h
        subst hQ
        exact k_zret hx hb hr hlk (Or.inl rfl) hP hK hD hS d_Sh_touchesCounter_125
      · rw [if_neg c3] at h
        refine lv_aload_n hx hb d_Sh_touchesCounter_60 rfl (lv_at hl 0 rfl) ?_
        refine rd_Sh_code hx hb hts hown hK hP lk_66 d_Sh_touchesCounter_61 ?_
        refine lv_iload_n hx hb d_Sh_touchesCounter_64 rfl (lv_at hl 3 rfl) ?_
        refine lv_iload hx hb d_Sh_touchesCounter_65 (lv_at hl 5 rfl) ?_
        obtain ⟨q4, hq4, h⟩ := Option.bind_eq_some_iff.mp h
        refine k_I (k_runVN ⟨hx, hb, hml, hown, hts⟩ (c_Co_numberAt rfl hq4) ok_Co_numberAt is_Co_numberAt lk_363 rfl rfl ⟨by decide, by decide⟩ hP hK hD hS hA hz (ci := 1) (q0 := 1) rfl rfl ob_Co rfl hl.1 rfl (Nat.le_of_ble_eq_true rfl) d_Sh_touchesCounter_67 ⟨Nat.zero_le _, Nat.zero_le _⟩) hD hS hA (fun H locs hP hD hS => ?_)
        refine lv_istore (lv' := [(6, .int q4), (0, .ref (ad 10)), (1, .int x1), (2, .int x2), (3, .int x3), (4, .int x4), (5, .int x5)]) hx hb d_Sh_touchesCounter_70 hl (by decide) rfl (fun ls hl => ?_)
        refine lv_aload_n hx hb d_Sh_touchesCounter_72 rfl (lv_at hl 1 rfl) ?_
        refine rd_Sh_code hx hb hts hown hK hP lk_66 d_Sh_touchesCounter_73 ?_
        refine lv_iload_n hx hb d_Sh_touchesCounter_76 rfl (lv_at hl 4 rfl) ?_
        refine lv_iload hx hb d_Sh_touchesCounter_77 (lv_at hl 6 rfl) ?_
        obtain ⟨q5, hq5, h⟩ := Option.bind_eq_some_iff.mp h
        refine k_I (k_runVN ⟨hx, hb, hml, hown, hts⟩ (c_Co_aAt rfl hq5) ok_Co_aAt is_Co_aAt lk_371 rfl rfl ⟨by decide, by decide⟩ hP hK hD hS hA hz (ci := 1) (q0 := 1) rfl rfl ob_Co rfl hl.1 rfl (Nat.le_of_ble_eq_true rfl) d_Sh_touchesCounter_79 ⟨Nat.zero_le _, Nat.zero_le _⟩) hD hS hA (fun H locs hP hD hS => ?_)
        refine lv_istore (lv' := [(7, .int q5), (6, .int q4), (0, .ref (ad 10)), (1, .int x1), (2, .int x2), (3, .int x3), (4, .int x4), (5, .int x5)]) hx hb d_Sh_touchesCounter_82 hl (by decide) rfl (fun ls hl => ?_)
        refine lv_iload hx hb d_Sh_touchesCounter_84 (lv_at hl 1 rfl) ?_
        refine lv_bipush (v := 12) hx hb d_Sh_touchesCounter_86 (by decide) ?_
        refine lv_icmp_eq (tgt := 98) hx hb d_Sh_touchesCounter_88 (by decide) (fun c6 => ?_) (fun c6 => ?_)
        · rw [if_pos c6] at h
          exact J98 _ _ _ _ _ _ _ _ _ h hP hD hS (lv_sub hl [2, 3, 4, 5, 6, 7, 0] rfl)
        · rw [if_neg c6] at h
          refine lv_iload hx hb d_Sh_touchesCounter_91 (lv_at hl 1 rfl) ?_
          refine lv_bipush (v := 13) hx hb d_Sh_touchesCounter_93 (by decide) ?_
          refine lv_icmp_ne (tgt := 118) hx hb d_Sh_touchesCounter_95 (by decide) (fun c7 => ?_) (fun c7 => ?_)
          · rw [if_neg c7] at h
            refine lv_iinc (v := (x5 + 1)) (lv' := [(5, .int (x5 + 1)), (7, .int q5), (6, .int q4), (0, .ref (ad 10)), (1, .int x1), (2, .int x2), (3, .int x3), (4, .int x4)]) hx hb d_Sh_touchesCounter_118 hl (k := 7) rfl rfl (by decide) rfl (fun ls hl => ?_)
            refine lv_goto (tgt := 53) hx hb d_Sh_touchesCounter_121 (by decide) ?_
            exact ih53 _ _ _ _ _ _ _ _ h hP hD hS (lv_sub hl [3, 4, 5, 6, 7, 0] rfl)
          · rw [if_pos c7] at h
            exact J98 _ _ _ _ _ _ _ _ _ h hP hD hS (lv_sub hl [2, 3, 4, 5, 6, 7, 0] rfl)
  unfold r_Sh_touchesCounter at h
  refine lv_aload_n hx hb d_Sh_touchesCounter_0 rfl (lv_at hl 0 rfl) ?_
  obtain ⟨q8, hq8, h⟩ := Option.bind_eq_some_iff.mp h
  refine k_I (k_runV ⟨hx, hb, hml, hown, hts⟩ (c_Sh_howManyCells rfl hq8) ok_Sh_howManyCells is_Sh_howManyCells lk_400 rfl rfl ⟨by decide, by decide⟩ hP hK hD hS hA hz (ci := 2) (q0 := 10) rfl rfl ob_Sh rfl hl.1 rfl (Nat.le_of_ble_eq_true rfl) d_Sh_touchesCounter_1 ⟨Nat.zero_le _, Nat.zero_le _⟩) hD hS hA (fun H locs hP hD hS => ?_)
  refine lv_istore_n (lv' := [(1, .int q8), (0, .ref (ad 10))]) hx hb d_Sh_touchesCounter_4 rfl hl (by decide) rfl (fun ls hl => ?_)
  refine lv_aload_n hx hb d_Sh_touchesCounter_5 rfl (lv_at hl 1 rfl) ?_
  refine rd_Sh_number hx hb hts hown hK hP lk_69 (v := (sh_number sh)) rfl d_Sh_touchesCounter_6 ?_
  refine lv_bipush (v := 12) hx hb d_Sh_touchesCounter_9 (by decide) ?_
  refine lv_icmp_eq (tgt := 28) hx hb d_Sh_touchesCounter_11 (by decide) (fun c9 => ?_) (fun c9 => ?_)
  · rw [if_pos c9] at h
    refine lv_iconst (v := 0) hx hb d_Sh_touchesCounter_28 (by decide) ?_
    cases h
    subst hQ
    exact k_zret hx hb hr hlk (Or.inl rfl) hP hK hD hS d_Sh_touchesCounter_29
  · rw [if_neg c9] at h
    refine lv_aload_n hx hb d_Sh_touchesCounter_14 rfl (lv_at hl 1 rfl) ?_
    refine rd_Sh_number hx hb hts hown hK hP lk_69 (v := (sh_number sh)) rfl d_Sh_touchesCounter_15 ?_
    refine lv_bipush (v := 13) hx hb d_Sh_touchesCounter_18 (by decide) ?_
    refine lv_icmp_eq (tgt := 28) hx hb d_Sh_touchesCounter_20 (by decide) (fun c10 => ?_) (fun c10 => ?_)
    · rw [if_pos c10] at h
      refine lv_iconst (v := 0) hx hb d_Sh_touchesCounter_28 (by decide) ?_
      cases h
      subst hQ
      exact k_zret hx hb hr hlk (Or.inl rfl) hP hK hD hS d_Sh_touchesCounter_29
    · rw [if_neg c10] at h
      refine lv_iload_n hx hb d_Sh_touchesCounter_23 rfl (lv_at hl 0 rfl) ?_
      refine lv_iconst (v := -1) hx hb d_Sh_touchesCounter_24 (by decide) ?_
      refine lv_icmp_ne (tgt := 30) hx hb d_Sh_touchesCounter_25 (by decide) (fun c11 => ?_) (fun c11 => ?_)
      · rw [if_neg c11] at h
        refine lv_aload_n hx hb d_Sh_touchesCounter_30 rfl (lv_at hl 1 rfl) ?_
        obtain ⟨q12, hq12, h⟩ := Option.bind_eq_some_iff.mp h
        refine k_I (k_runV ⟨hx, hb, hml, hown, hts⟩ (c_Sh_firstCell rfl hq12) ok_Sh_firstCell is_Sh_firstCell lk_404 rfl rfl ⟨by decide, by decide⟩ hP hK hD hS hA hz (ci := 2) (q0 := 10) rfl rfl ob_Sh rfl hl.1 rfl (Nat.le_of_ble_eq_true rfl) d_Sh_touchesCounter_31 ⟨Nat.zero_le _, Nat.zero_le _⟩) hD hS hA (fun H locs hP hD hS => ?_)
        refine lv_istore_n (lv' := [(2, .int q12), (1, .int q8), (0, .ref (ad 10))]) hx hb d_Sh_touchesCounter_34 rfl hl (by decide) rfl (fun ls hl => ?_)
        refine lv_aload_n hx hb d_Sh_touchesCounter_35 rfl (lv_at hl 2 rfl) ?_
        obtain ⟨q13, hq13, h⟩ := Option.bind_eq_some_iff.mp h
        refine k_I (k_runV ⟨hx, hb, hml, hown, hts⟩ (c_Sh_ownerOfCells rfl hq13) ok_Sh_ownerOfCells is_Sh_ownerOfCells lk_408 rfl rfl ⟨by decide, by decide⟩ hP hK hD hS hA hz (ci := 2) (q0 := 10) rfl rfl ob_Sh rfl hl.1 rfl (Nat.le_of_ble_eq_true rfl) d_Sh_touchesCounter_36 ⟨Nat.zero_le _, Nat.zero_le _⟩) hD hS hA (fun H locs hP hD hS => ?_)
        refine lv_istore_n (lv' := [(3, .int q13), (2, .int q12), (1, .int q8), (0, .ref (ad 10))]) hx hb d_Sh_touchesCounter_39 rfl hl (by decide) rfl (fun ls hl => ?_)
        refine lv_aload_n hx hb d_Sh_touchesCounter_40 rfl (lv_at hl 3 rfl) ?_
        refine rd_Sh_code hx hb hts hown hK hP lk_66 d_Sh_touchesCounter_41 ?_
        refine lv_iload_n hx hb d_Sh_touchesCounter_44 rfl (lv_at hl 0 rfl) ?_
        obtain ⟨q14, hq14, h⟩ := Option.bind_eq_some_iff.mp h
        refine k_I (k_runVN ⟨hx, hb, hml, hown, hts⟩ (c_Co_sizeOf rfl hq14) ok_Co_sizeOf is_Co_sizeOf lk_355 rfl rfl ⟨by decide, by decide⟩ hP hK hD hS hA hz (ci := 1) (q0 := 1) rfl rfl ob_Co rfl hl.1 rfl (Nat.le_of_ble_eq_true rfl) d_Sh_touchesCounter_45 ⟨Nat.zero_le _, Nat.zero_le _⟩) hD hS hA (fun H locs hP hD hS => ?_)
        refine lv_istore (lv' := [(4, .int q14), (3, .int q13), (2, .int q12), (1, .int q8), (0, .ref (ad 10))]) hx hb d_Sh_touchesCounter_48 hl (by decide) rfl (fun ls hl => ?_)
        refine lv_iconst (v := 0) hx hb d_Sh_touchesCounter_50 (by decide) ?_
        refine lv_istore (lv' := [(5, .int (0 : Int32)), (4, .int q14), (3, .int q13), (2, .int q12), (1, .int q8), (0, .ref (ad 10))]) hx hb d_Sh_touchesCounter_51 hl (by decide) rfl (fun ls hl => ?_)
        exact L53 n _ _ _ _ _ _ _ _ h hP hD hS (lv_sub hl [5, 4, 3, 2, 1, 0] rfl)
      · rw [if_pos c11] at h
        refine lv_iconst (v := 0) hx hb d_Sh_touchesCounter_28 (by decide) ?_
        cases h
        subst hQ
        exact k_zret hx hb hr hlk (Or.inl rfl) hP hK hD hS d_Sh_touchesCounter_29
theorem d_Sh_leavesFrame_0 : decode b_Sh_leavesFrame 0 = .ok (.aload_n 0, 1) := by decide +kernel
theorem d_Sh_leavesFrame_1 : decode b_Sh_leavesFrame 1 = .ok (.invokevirtual 103, 3) := by decide +kernel
theorem d_Sh_leavesFrame_4 : decode b_Sh_leavesFrame 4 = .ok (.istore_n 1, 1) := by decide +kernel
theorem d_Sh_leavesFrame_5 : decode b_Sh_leavesFrame 5 = .ok (.iload_n 1, 1) := by decide +kernel
theorem d_Sh_leavesFrame_6 : decode b_Sh_leavesFrame 6 = .ok (.iconst (-1), 1) := by decide +kernel
theorem d_Sh_leavesFrame_7 : decode b_Sh_leavesFrame 7 = .ok (.if_icmp .ne 5, 3) := by decide +kernel
theorem d_Sh_leavesFrame_10 : decode b_Sh_leavesFrame 10 = .ok (.iconst 0, 1) := by decide +kernel
theorem d_Sh_leavesFrame_11 : decode b_Sh_leavesFrame 11 = .ok (.ireturn, 1) := by decide +kernel
theorem d_Sh_leavesFrame_12 : decode b_Sh_leavesFrame 12 = .ok (.aload_n 0, 1) := by decide +kernel
theorem d_Sh_leavesFrame_13 : decode b_Sh_leavesFrame 13 = .ok (.invokevirtual 106, 3) := by decide +kernel
theorem d_Sh_leavesFrame_16 : decode b_Sh_leavesFrame 16 = .ok (.istore_n 2, 1) := by decide +kernel
theorem d_Sh_leavesFrame_17 : decode b_Sh_leavesFrame 17 = .ok (.iload_n 2, 1) := by decide +kernel
theorem d_Sh_leavesFrame_18 : decode b_Sh_leavesFrame 18 = .ok (.ifCond .lt 28, 3) := by decide +kernel
theorem d_Sh_leavesFrame_21 : decode b_Sh_leavesFrame 21 = .ok (.iload_n 1, 1) := by decide +kernel
theorem d_Sh_leavesFrame_22 : decode b_Sh_leavesFrame 22 = .ok (.ifCond .le 28, 3) := by decide +kernel
theorem d_Sh_leavesFrame_25 : decode b_Sh_leavesFrame 25 = .ok (.iload_n 2, 1) := by decide +kernel
theorem d_Sh_leavesFrame_26 : decode b_Sh_leavesFrame 26 = .ok (.i2l, 1) := by decide +kernel
theorem d_Sh_leavesFrame_27 : decode b_Sh_leavesFrame 27 = .ok (.iload_n 1, 1) := by decide +kernel
theorem d_Sh_leavesFrame_28 : decode b_Sh_leavesFrame 28 = .ok (.i2l, 1) := by decide +kernel
theorem d_Sh_leavesFrame_29 : decode b_Sh_leavesFrame 29 = .ok (.ladd, 1) := by decide +kernel
theorem d_Sh_leavesFrame_30 : decode b_Sh_leavesFrame 30 = .ok (.aload_n 0, 1) := by decide +kernel
theorem d_Sh_leavesFrame_31 : decode b_Sh_leavesFrame 31 = .ok (.getfield 9, 3) := by decide +kernel
theorem d_Sh_leavesFrame_34 : decode b_Sh_leavesFrame 34 = .ok (.aload_n 0, 1) := by decide +kernel
theorem d_Sh_leavesFrame_35 : decode b_Sh_leavesFrame 35 = .ok (.invokevirtual 109, 3) := by decide +kernel
theorem d_Sh_leavesFrame_38 : decode b_Sh_leavesFrame 38 = .ok (.invokevirtual 40, 3) := by decide +kernel
theorem d_Sh_leavesFrame_41 : decode b_Sh_leavesFrame 41 = .ok (.i2l, 1) := by decide +kernel
theorem d_Sh_leavesFrame_42 : decode b_Sh_leavesFrame 42 = .ok (.lcmp, 1) := by decide +kernel
theorem d_Sh_leavesFrame_43 : decode b_Sh_leavesFrame 43 = .ok (.ifCond .le 7, 3) := by decide +kernel
theorem d_Sh_leavesFrame_46 : decode b_Sh_leavesFrame 46 = .ok (.iconst 1, 1) := by decide +kernel
theorem d_Sh_leavesFrame_47 : decode b_Sh_leavesFrame 47 = .ok (.goto 4, 3) := by decide +kernel
theorem d_Sh_leavesFrame_50 : decode b_Sh_leavesFrame 50 = .ok (.iconst 0, 1) := by decide +kernel
theorem d_Sh_leavesFrame_51 : decode b_Sh_leavesFrame 51 = .ok (.ireturn, 1) := by decide +kernel
def r_Sh_leavesFrame (n : Nat) (ko : T_ko) (sh : T_sh)  : Option (Int32) := (r_Sh_howManyCells n ko sh).bind (fun q1 => if q1 = (-1 : Int32) then some ((0 : Int32)) else (r_Sh_firstCell n sh).bind (fun q3 => if q3 < 0 then some ((1 : Int32)) else if q1 ≤ 0 then some ((0 : Int32)) else (r_Sh_ownerOfCells n sh).bind (fun q6 => (r_Co_frameOf n ko q6).bind (fun q7 => if (lg_cmp (q3.toInt64 + q1.toInt64) q7.toInt64) ≤ 0 then some ((0 : Int32)) else some ((1 : Int32))))))
def rm_Sh_leavesFrame : Jvm.Room := { frames := 3, cells := 0, slots := 0, locals := 62 }
set_option maxHeartbeats 4000000 in
set_option maxRecDepth 100000 in
theorem c_Sh_leavesFrame {l : Launch} {D : va_G} {cI cL : ClassId} {ad : Nat → Nat} {ma : T_ma} {ko : T_ko} {sh : T_sh} {lo : T_lo} {de : T_de} {wa : T_wa} {me : T_me} {ru : T_ru} {ws0 : va_W} {sz n : Nat}  {r9 : Int32} (hw : ws0 = (wX cI cL ad ma ko sh lo de wa me ru)) (h : r_Sh_leavesFrame n ko sh  = some r9) : Met l y_Sh_leavesFrame (Cond.code y_Sh_leavesFrame b_Sh_leavesFrame 3 (some .boolean) :: TB) rm_Sh_leavesFrame (PreW D clX (tyX cI cL) ws0 [.ref (ad 10)] sz) (PstI D clX (tyX cI cL) ws0 (wX cI cL ad ma ko sh lo de wa me ru) sz r9) 0 0 (va_A ws0 sz) := by
  refine k_met (by decide) (Nat.le_of_ble_eq_true rfl) ?_
  intro p e s m below meth c ls hx hb hr hml hts hown hlk hnm hsz hP hK hD hA hz hl
  have hP : va_P D clX (wX cI cL ad ma ko sh lo de wa me ru) s.heap := by rw [← hw]; exact hP
  have hD : va_D (va_A ws0 sz) (wX cI cL ad ma ko sh lo de wa me ru) := by rw [← hw]; exact hD
  have hS : va_S (va_A ws0 sz) s.heap s.heap [] := va_S.rf
  have hl : lv_has ls 3 [(0, .ref (ad 10))] := hl
  generalize hQ : MQ below (PstI D clX (tyX cI cL) ws0 (wX cI cL ad ma ko sh lo de wa me ru) sz r9) [.ref (ad 10)].toArray s 0 0 (va_A ws0 sz) = Q
  unfold r_Sh_leavesFrame at h
  refine lv_aload_n hx hb d_Sh_leavesFrame_0 rfl (lv_at hl 0 rfl) ?_
  obtain ⟨q1, hq1, h⟩ := Option.bind_eq_some_iff.mp h
  refine k_I (k_runV ⟨hx, hb, hml, hown, hts⟩ (c_Sh_howManyCells rfl hq1) ok_Sh_howManyCells is_Sh_howManyCells lk_400 rfl rfl ⟨by decide, by decide⟩ hP hK hD hS hA hz (ci := 2) (q0 := 10) rfl rfl ob_Sh rfl hl.1 rfl (Nat.le_of_ble_eq_true rfl) d_Sh_leavesFrame_1 ⟨Nat.zero_le _, Nat.zero_le _⟩) hD hS hA (fun H locs hP hD hS => ?_)
  refine lv_istore_n (lv' := [(1, .int q1), (0, .ref (ad 10))]) hx hb d_Sh_leavesFrame_4 rfl hl (by decide) rfl (fun ls hl => ?_)
  refine lv_iload_n hx hb d_Sh_leavesFrame_5 rfl (lv_at hl 0 rfl) ?_
  refine lv_iconst (v := -1) hx hb d_Sh_leavesFrame_6 (by decide) ?_
  refine lv_icmp_ne (tgt := 12) hx hb d_Sh_leavesFrame_7 (by decide) (fun c2 => ?_) (fun c2 => ?_)
  · rw [if_neg c2] at h
    refine lv_aload_n hx hb d_Sh_leavesFrame_12 rfl (lv_at hl 1 rfl) ?_
    obtain ⟨q3, hq3, h⟩ := Option.bind_eq_some_iff.mp h
    refine k_I (k_runV ⟨hx, hb, hml, hown, hts⟩ (c_Sh_firstCell rfl hq3) ok_Sh_firstCell is_Sh_firstCell lk_404 rfl rfl ⟨by decide, by decide⟩ hP hK hD hS hA hz (ci := 2) (q0 := 10) rfl rfl ob_Sh rfl hl.1 rfl (Nat.le_of_ble_eq_true rfl) d_Sh_leavesFrame_13 ⟨Nat.zero_le _, Nat.zero_le _⟩) hD hS hA (fun H locs hP hD hS => ?_)
    refine lv_istore_n (lv' := [(2, .int q3), (1, .int q1), (0, .ref (ad 10))]) hx hb d_Sh_leavesFrame_16 rfl hl (by decide) rfl (fun ls hl => ?_)
    refine lv_iload_n hx hb d_Sh_leavesFrame_17 rfl (lv_at hl 0 rfl) ?_
    refine lv_if_lt (tgt := 46) hx hb d_Sh_leavesFrame_18 (by decide) (fun c4 => ?_) (fun c4 => ?_)
    · rw [if_pos c4] at h
      refine lv_iconst (v := 1) hx hb d_Sh_leavesFrame_46 (by decide) ?_
      refine lv_goto (tgt := 51) hx hb d_Sh_leavesFrame_47 (by decide) ?_
      cases h
      subst hQ
      exact k_zret hx hb hr hlk (Or.inr rfl) hP hK hD hS d_Sh_leavesFrame_51
    · rw [if_neg c4] at h
      refine lv_iload_n hx hb d_Sh_leavesFrame_21 rfl (lv_at hl 1 rfl) ?_
      refine lv_if_le (tgt := 50) hx hb d_Sh_leavesFrame_22 (by decide) (fun c5 => ?_) (fun c5 => ?_)
      · rw [if_pos c5] at h
        refine lv_iconst (v := 0) hx hb d_Sh_leavesFrame_50 (by decide) ?_
        cases h
        subst hQ
        exact k_zret hx hb hr hlk (Or.inl rfl) hP hK hD hS d_Sh_leavesFrame_51
      · rw [if_neg c5] at h
        refine lv_iload_n hx hb d_Sh_leavesFrame_25 rfl (lv_at hl 0 rfl) ?_
        refine lv_i2l (v := q3.toInt64) hx hb d_Sh_leavesFrame_26 rfl ?_
        refine lv_iload_n hx hb d_Sh_leavesFrame_27 rfl (lv_at hl 1 rfl) ?_
        refine lv_i2l (v := q1.toInt64) hx hb d_Sh_leavesFrame_28 rfl ?_
        refine lv_ladd hx hb d_Sh_leavesFrame_29 ?_
        refine lv_aload_n hx hb d_Sh_leavesFrame_30 rfl (lv_at hl 2 rfl) ?_
        refine rd_Sh_code hx hb hts hown hK hP lk_66 d_Sh_leavesFrame_31 ?_
        refine lv_aload_n hx hb d_Sh_leavesFrame_34 rfl (lv_at hl 2 rfl) ?_
        obtain ⟨q6, hq6, h⟩ := Option.bind_eq_some_iff.mp h
        refine k_I (k_runV ⟨hx, hb, hml, hown, hts⟩ (c_Sh_ownerOfCells rfl hq6) ok_Sh_ownerOfCells is_Sh_ownerOfCells lk_408 rfl rfl ⟨by decide, by decide⟩ hP hK hD hS hA hz (ci := 2) (q0 := 10) rfl rfl ob_Sh rfl hl.1 rfl (Nat.le_of_ble_eq_true rfl) d_Sh_leavesFrame_35 ⟨Nat.zero_le _, Nat.zero_le _⟩) hD hS hA (fun H locs hP hD hS => ?_)
        obtain ⟨q7, hq7, h⟩ := Option.bind_eq_some_iff.mp h
        refine k_I (k_runVN ⟨hx, hb, hml, hown, hts⟩ (c_Co_frameOf rfl hq7) ok_Co_frameOf is_Co_frameOf lk_340 rfl rfl ⟨by decide, by decide⟩ hP hK hD hS hA hz (ci := 1) (q0 := 1) rfl rfl ob_Co rfl hl.1 rfl (Nat.le_of_ble_eq_true rfl) d_Sh_leavesFrame_38 ⟨Nat.zero_le _, Nat.zero_le _⟩) hD hS hA (fun H locs hP hD hS => ?_)
        refine lv_i2l (v := q7.toInt64) hx hb d_Sh_leavesFrame_41 rfl ?_
        refine W.lcmp hx hb d_Sh_leavesFrame_42 ?_
        refine lv_if_le (tgt := 50) hx hb d_Sh_leavesFrame_43 (by decide) (fun c8 => ?_) (fun c8 => ?_)
        · rw [if_pos c8] at h
          refine lv_iconst (v := 0) hx hb d_Sh_leavesFrame_50 (by decide) ?_
          cases h
          subst hQ
          exact k_zret hx hb hr hlk (Or.inl rfl) hP hK hD hS d_Sh_leavesFrame_51
        · rw [if_neg c8] at h
          refine lv_iconst (v := 1) hx hb d_Sh_leavesFrame_46 (by decide) ?_
          refine lv_goto (tgt := 51) hx hb d_Sh_leavesFrame_47 (by decide) ?_
          cases h
          subst hQ
          exact k_zret hx hb hr hlk (Or.inr rfl) hP hK hD hS d_Sh_leavesFrame_51
  · rw [if_pos c2] at h
    refine lv_iconst (v := 0) hx hb d_Sh_leavesFrame_10 (by decide) ?_
    cases h
    subst hQ
    exact k_zret hx hb hr hlk (Or.inl rfl) hP hK hD hS d_Sh_leavesFrame_11
theorem d_Sh_namesWrongUnit_0 : decode b_Sh_namesWrongUnit 0 = .ok (.aload_n 0, 1) := by decide +kernel
theorem d_Sh_namesWrongUnit_1 : decode b_Sh_namesWrongUnit 1 = .ok (.getfield 65, 3) := by decide +kernel
theorem d_Sh_namesWrongUnit_4 : decode b_Sh_namesWrongUnit 4 = .ok (.lookupswitch 122 #[(5, 44), (6, 44), (15, 83), (16, 44)], 44) := by decide +kernel
theorem d_Sh_namesWrongUnit_48 : decode b_Sh_namesWrongUnit 48 = .ok (.aload_n 0, 1) := by decide +kernel
theorem d_Sh_namesWrongUnit_49 : decode b_Sh_namesWrongUnit 49 = .ok (.getfield 71, 3) := by decide +kernel
theorem d_Sh_namesWrongUnit_52 : decode b_Sh_namesWrongUnit 52 = .ok (.ifCond .lt 29, 3) := by decide +kernel
theorem d_Sh_namesWrongUnit_55 : decode b_Sh_namesWrongUnit 55 = .ok (.aload_n 0, 1) := by decide +kernel
theorem d_Sh_namesWrongUnit_56 : decode b_Sh_namesWrongUnit 56 = .ok (.getfield 71, 3) := by decide +kernel
theorem d_Sh_namesWrongUnit_59 : decode b_Sh_namesWrongUnit 59 = .ok (.aload_n 0, 1) := by decide +kernel
theorem d_Sh_namesWrongUnit_60 : decode b_Sh_namesWrongUnit 60 = .ok (.getfield 15, 3) := by decide +kernel
theorem d_Sh_namesWrongUnit_63 : decode b_Sh_namesWrongUnit 63 = .ok (.if_icmp .ge 18, 3) := by decide +kernel
theorem d_Sh_namesWrongUnit_66 : decode b_Sh_namesWrongUnit 66 = .ok (.aload_n 0, 1) := by decide +kernel
theorem d_Sh_namesWrongUnit_67 : decode b_Sh_namesWrongUnit 67 = .ok (.getfield 9, 3) := by decide +kernel
theorem d_Sh_namesWrongUnit_70 : decode b_Sh_namesWrongUnit 70 = .ok (.aload_n 0, 1) := by decide +kernel
theorem d_Sh_namesWrongUnit_71 : decode b_Sh_namesWrongUnit 71 = .ok (.getfield 71, 3) := by decide +kernel
theorem d_Sh_namesWrongUnit_74 : decode b_Sh_namesWrongUnit 74 = .ok (.invokevirtual 37, 3) := by decide +kernel
theorem d_Sh_namesWrongUnit_77 : decode b_Sh_namesWrongUnit 77 = .ok (.iconst (-1), 1) := by decide +kernel
theorem d_Sh_namesWrongUnit_78 : decode b_Sh_namesWrongUnit 78 = .ok (.if_icmp .ne 7, 3) := by decide +kernel
theorem d_Sh_namesWrongUnit_81 : decode b_Sh_namesWrongUnit 81 = .ok (.iconst 1, 1) := by decide +kernel
theorem d_Sh_namesWrongUnit_82 : decode b_Sh_namesWrongUnit 82 = .ok (.goto 4, 3) := by decide +kernel
theorem d_Sh_namesWrongUnit_85 : decode b_Sh_namesWrongUnit 85 = .ok (.iconst 0, 1) := by decide +kernel
theorem d_Sh_namesWrongUnit_86 : decode b_Sh_namesWrongUnit 86 = .ok (.ireturn, 1) := by decide +kernel
theorem d_Sh_namesWrongUnit_87 : decode b_Sh_namesWrongUnit 87 = .ok (.aload_n 0, 1) := by decide +kernel
theorem d_Sh_namesWrongUnit_88 : decode b_Sh_namesWrongUnit 88 = .ok (.getfield 71, 3) := by decide +kernel
theorem d_Sh_namesWrongUnit_91 : decode b_Sh_namesWrongUnit 91 = .ok (.ifCond .lt 29, 3) := by decide +kernel
theorem d_Sh_namesWrongUnit_94 : decode b_Sh_namesWrongUnit 94 = .ok (.aload_n 0, 1) := by decide +kernel
theorem d_Sh_namesWrongUnit_95 : decode b_Sh_namesWrongUnit 95 = .ok (.getfield 71, 3) := by decide +kernel
theorem d_Sh_namesWrongUnit_98 : decode b_Sh_namesWrongUnit 98 = .ok (.aload_n 0, 1) := by decide +kernel
theorem d_Sh_namesWrongUnit_99 : decode b_Sh_namesWrongUnit 99 = .ok (.getfield 15, 3) := by decide +kernel
theorem d_Sh_namesWrongUnit_102 : decode b_Sh_namesWrongUnit 102 = .ok (.if_icmp .ge 18, 3) := by decide +kernel
theorem d_Sh_namesWrongUnit_105 : decode b_Sh_namesWrongUnit 105 = .ok (.aload_n 0, 1) := by decide +kernel
theorem d_Sh_namesWrongUnit_106 : decode b_Sh_namesWrongUnit 106 = .ok (.getfield 9, 3) := by decide +kernel
theorem d_Sh_namesWrongUnit_109 : decode b_Sh_namesWrongUnit 109 = .ok (.aload_n 0, 1) := by decide +kernel
theorem d_Sh_namesWrongUnit_110 : decode b_Sh_namesWrongUnit 110 = .ok (.getfield 71, 3) := by decide +kernel
theorem d_Sh_namesWrongUnit_113 : decode b_Sh_namesWrongUnit 113 = .ok (.invokevirtual 37, 3) := by decide +kernel
theorem d_Sh_namesWrongUnit_116 : decode b_Sh_namesWrongUnit 116 = .ok (.iconst (-1), 1) := by decide +kernel
theorem d_Sh_namesWrongUnit_117 : decode b_Sh_namesWrongUnit 117 = .ok (.if_icmp .eq 7, 3) := by decide +kernel
theorem d_Sh_namesWrongUnit_120 : decode b_Sh_namesWrongUnit 120 = .ok (.iconst 1, 1) := by decide +kernel
theorem d_Sh_namesWrongUnit_121 : decode b_Sh_namesWrongUnit 121 = .ok (.goto 4, 3) := by decide +kernel
theorem d_Sh_namesWrongUnit_124 : decode b_Sh_namesWrongUnit 124 = .ok (.iconst 0, 1) := by decide +kernel
theorem d_Sh_namesWrongUnit_125 : decode b_Sh_namesWrongUnit 125 = .ok (.ireturn, 1) := by decide +kernel
theorem d_Sh_namesWrongUnit_126 : decode b_Sh_namesWrongUnit 126 = .ok (.iconst 0, 1) := by decide +kernel
theorem d_Sh_namesWrongUnit_127 : decode b_Sh_namesWrongUnit 127 = .ok (.ireturn, 1) := by decide +kernel
def r_Sh_namesWrongUnit (n : Nat) (ko : T_ko) (sh : T_sh)  : Option (Int32) := if (sh_number sh) = (5 : Int32) then if (sh_a sh) < 0 then some ((1 : Int32)) else if (sh_unit sh) ≤ (sh_a sh) then some ((1 : Int32)) else (r_Co_placeOf n ko (sh_a sh)).bind (fun q4 => if q4 = (-1 : Int32) then some ((1 : Int32)) else some ((0 : Int32))) else if (sh_number sh) = (6 : Int32) then if (sh_a sh) < 0 then some ((1 : Int32)) else if (sh_unit sh) ≤ (sh_a sh) then some ((1 : Int32)) else (r_Co_placeOf n ko (sh_a sh)).bind (fun q9 => if q9 = (-1 : Int32) then some ((1 : Int32)) else some ((0 : Int32))) else if (sh_number sh) = (15 : Int32) then if (sh_a sh) < 0 then some ((1 : Int32)) else if (sh_unit sh) ≤ (sh_a sh) then some ((1 : Int32)) else (r_Co_placeOf n ko (sh_a sh)).bind (fun q14 => if q14 = (-1 : Int32) then some ((0 : Int32)) else some ((1 : Int32))) else if (sh_number sh) = (16 : Int32) then if (sh_a sh) < 0 then some ((1 : Int32)) else if (sh_unit sh) ≤ (sh_a sh) then some ((1 : Int32)) else (r_Co_placeOf n ko (sh_a sh)).bind (fun q19 => if q19 = (-1 : Int32) then some ((1 : Int32)) else some ((0 : Int32))) else some ((0 : Int32))
def rm_Sh_namesWrongUnit : Jvm.Room := { frames := 2, cells := 0, slots := 0, locals := 42 }
set_option maxHeartbeats 4000000 in
set_option maxRecDepth 100000 in
theorem c_Sh_namesWrongUnit {l : Launch} {D : va_G} {cI cL : ClassId} {ad : Nat → Nat} {ma : T_ma} {ko : T_ko} {sh : T_sh} {lo : T_lo} {de : T_de} {wa : T_wa} {me : T_me} {ru : T_ru} {ws0 : va_W} {sz n : Nat}  {r9 : Int32} (hw : ws0 = (wX cI cL ad ma ko sh lo de wa me ru)) (h : r_Sh_namesWrongUnit n ko sh  = some r9) : Met l y_Sh_namesWrongUnit (Cond.code y_Sh_namesWrongUnit b_Sh_namesWrongUnit 1 (some .boolean) :: TB) rm_Sh_namesWrongUnit (PreW D clX (tyX cI cL) ws0 [.ref (ad 10)] sz) (PstI D clX (tyX cI cL) ws0 (wX cI cL ad ma ko sh lo de wa me ru) sz r9) 0 0 (va_A ws0 sz) := by
  refine k_met (by decide) (Nat.le_of_ble_eq_true rfl) ?_
  intro p e s m below meth c ls hx hb hr hml hts hown hlk hnm hsz hP hK hD hA hz hl
  have hP : va_P D clX (wX cI cL ad ma ko sh lo de wa me ru) s.heap := by rw [← hw]; exact hP
  have hD : va_D (va_A ws0 sz) (wX cI cL ad ma ko sh lo de wa me ru) := by rw [← hw]; exact hD
  have hS : va_S (va_A ws0 sz) s.heap s.heap [] := va_S.rf
  have hl : lv_has ls 1 [(0, .ref (ad 10))] := hl
  generalize hQ : MQ below (PstI D clX (tyX cI cL) ws0 (wX cI cL ad ma ko sh lo de wa me ru) sz r9) [.ref (ad 10)].toArray s 0 0 (va_A ws0 sz) = Q
  unfold r_Sh_namesWrongUnit at h
  refine lv_aload_n hx hb d_Sh_namesWrongUnit_0 rfl (lv_at hl 0 rfl) ?_
  refine rd_Sh_number hx hb hts hown hK hP lk_69 (v := (sh_number sh)) rfl d_Sh_namesWrongUnit_1 ?_
  by_cases c1 : (sh_number sh) = (5 : Int32)
  · rw [if_pos c1] at h
    refine k_sw c1 ?_
    refine lv_lookup (tgt := 48) hx hb d_Sh_namesWrongUnit_4 (by decide) rfl (by decide) ?_
    refine lv_aload_n hx hb d_Sh_namesWrongUnit_48 rfl (lv_at hl 0 rfl) ?_
    refine rd_Sh_a hx hb hts hown hK hP lk_70 (v := (sh_a sh)) rfl d_Sh_namesWrongUnit_49 ?_
    refine lv_if_lt (tgt := 81) hx hb d_Sh_namesWrongUnit_52 (by decide) (fun c2 => ?_) (fun c2 => ?_)
    · rw [if_pos c2] at h
      refine lv_iconst (v := 1) hx hb d_Sh_namesWrongUnit_81 (by decide) ?_
      refine lv_goto (tgt := 86) hx hb d_Sh_namesWrongUnit_82 (by decide) ?_
      cases h
      subst hQ
      exact k_zret hx hb hr hlk (Or.inr rfl) hP hK hD hS d_Sh_namesWrongUnit_86
    · rw [if_neg c2] at h
      refine lv_aload_n hx hb d_Sh_namesWrongUnit_55 rfl (lv_at hl 0 rfl) ?_
      refine rd_Sh_a hx hb hts hown hK hP lk_70 (v := (sh_a sh)) rfl d_Sh_namesWrongUnit_56 ?_
      refine lv_aload_n hx hb d_Sh_namesWrongUnit_59 rfl (lv_at hl 0 rfl) ?_
      refine rd_Sh_unit hx hb hts hown hK hP lk_67 (v := (sh_unit sh)) rfl d_Sh_namesWrongUnit_60 ?_
      refine lv_icmp_ge (tgt := 81) hx hb d_Sh_namesWrongUnit_63 (by decide) (fun c3 => ?_) (fun c3 => ?_)
      · rw [if_pos c3] at h
        refine lv_iconst (v := 1) hx hb d_Sh_namesWrongUnit_81 (by decide) ?_
        refine lv_goto (tgt := 86) hx hb d_Sh_namesWrongUnit_82 (by decide) ?_
        cases h
        subst hQ
        exact k_zret hx hb hr hlk (Or.inr rfl) hP hK hD hS d_Sh_namesWrongUnit_86
      · rw [if_neg c3] at h
        refine lv_aload_n hx hb d_Sh_namesWrongUnit_66 rfl (lv_at hl 0 rfl) ?_
        refine rd_Sh_code hx hb hts hown hK hP lk_66 d_Sh_namesWrongUnit_67 ?_
        refine lv_aload_n hx hb d_Sh_namesWrongUnit_70 rfl (lv_at hl 0 rfl) ?_
        refine rd_Sh_a hx hb hts hown hK hP lk_70 (v := (sh_a sh)) rfl d_Sh_namesWrongUnit_71 ?_
        obtain ⟨q4, hq4, h⟩ := Option.bind_eq_some_iff.mp h
        refine k_I (k_runVN ⟨hx, hb, hml, hown, hts⟩ (c_Co_placeOf rfl hq4) ok_Co_placeOf is_Co_placeOf lk_332 rfl rfl ⟨by decide, by decide⟩ hP hK hD hS hA hz (ci := 1) (q0 := 1) rfl rfl ob_Co rfl hl.1 rfl (Nat.le_of_ble_eq_true rfl) d_Sh_namesWrongUnit_74 ⟨Nat.zero_le _, Nat.zero_le _⟩) hD hS hA (fun H locs hP hD hS => ?_)
        refine lv_iconst (v := -1) hx hb d_Sh_namesWrongUnit_77 (by decide) ?_
        refine lv_icmp_ne (tgt := 85) hx hb d_Sh_namesWrongUnit_78 (by decide) (fun c5 => ?_) (fun c5 => ?_)
        · rw [if_neg c5] at h
          refine lv_iconst (v := 0) hx hb d_Sh_namesWrongUnit_85 (by decide) ?_
          cases h
          subst hQ
          exact k_zret hx hb hr hlk (Or.inl rfl) hP hK hD hS d_Sh_namesWrongUnit_86
        · rw [if_pos c5] at h
          refine lv_iconst (v := 1) hx hb d_Sh_namesWrongUnit_81 (by decide) ?_
          refine lv_goto (tgt := 86) hx hb d_Sh_namesWrongUnit_82 (by decide) ?_
          cases h
          subst hQ
          exact k_zret hx hb hr hlk (Or.inr rfl) hP hK hD hS d_Sh_namesWrongUnit_86
  · rw [if_neg c1] at h
    by_cases c6 : (sh_number sh) = (6 : Int32)
    · rw [if_pos c6] at h
      refine k_sw c6 ?_
      refine lv_lookup (tgt := 48) hx hb d_Sh_namesWrongUnit_4 (by decide) rfl (by decide) ?_
      refine lv_aload_n hx hb d_Sh_namesWrongUnit_48 rfl (lv_at hl 0 rfl) ?_
      refine rd_Sh_a hx hb hts hown hK hP lk_70 (v := (sh_a sh)) rfl d_Sh_namesWrongUnit_49 ?_
      refine lv_if_lt (tgt := 81) hx hb d_Sh_namesWrongUnit_52 (by decide) (fun c7 => ?_) (fun c7 => ?_)
      · rw [if_pos c7] at h
        refine lv_iconst (v := 1) hx hb d_Sh_namesWrongUnit_81 (by decide) ?_
        refine lv_goto (tgt := 86) hx hb d_Sh_namesWrongUnit_82 (by decide) ?_
        cases h
        subst hQ
        exact k_zret hx hb hr hlk (Or.inr rfl) hP hK hD hS d_Sh_namesWrongUnit_86
      · rw [if_neg c7] at h
        refine lv_aload_n hx hb d_Sh_namesWrongUnit_55 rfl (lv_at hl 0 rfl) ?_
        refine rd_Sh_a hx hb hts hown hK hP lk_70 (v := (sh_a sh)) rfl d_Sh_namesWrongUnit_56 ?_
        refine lv_aload_n hx hb d_Sh_namesWrongUnit_59 rfl (lv_at hl 0 rfl) ?_
        refine rd_Sh_unit hx hb hts hown hK hP lk_67 (v := (sh_unit sh)) rfl d_Sh_namesWrongUnit_60 ?_
        refine lv_icmp_ge (tgt := 81) hx hb d_Sh_namesWrongUnit_63 (by decide) (fun c8 => ?_) (fun c8 => ?_)
        · rw [if_pos c8] at h
          refine lv_iconst (v := 1) hx hb d_Sh_namesWrongUnit_81 (by decide) ?_
          refine lv_goto (tgt := 86) hx hb d_Sh_namesWrongUnit_82 (by decide) ?_
          cases h
          subst hQ
          exact k_zret hx hb hr hlk (Or.inr rfl) hP hK hD hS d_Sh_namesWrongUnit_86
        · rw [if_neg c8] at h
          refine lv_aload_n hx hb d_Sh_namesWrongUnit_66 rfl (lv_at hl 0 rfl) ?_
          refine rd_Sh_code hx hb hts hown hK hP lk_66 d_Sh_namesWrongUnit_67 ?_
          refine lv_aload_n hx hb d_Sh_namesWrongUnit_70 rfl (lv_at hl 0 rfl) ?_
          refine rd_Sh_a hx hb hts hown hK hP lk_70 (v := (sh_a sh)) rfl d_Sh_namesWrongUnit_71 ?_
          obtain ⟨q9, hq9, h⟩ := Option.bind_eq_some_iff.mp h
          refine k_I (k_runVN ⟨hx, hb, hml, hown, hts⟩ (c_Co_placeOf rfl hq9) ok_Co_placeOf is_Co_placeOf lk_332 rfl rfl ⟨by decide, by decide⟩ hP hK hD hS hA hz (ci := 1) (q0 := 1) rfl rfl ob_Co rfl hl.1 rfl (Nat.le_of_ble_eq_true rfl) d_Sh_namesWrongUnit_74 ⟨Nat.zero_le _, Nat.zero_le _⟩) hD hS hA (fun H locs hP hD hS => ?_)
          refine lv_iconst (v := -1) hx hb d_Sh_namesWrongUnit_77 (by decide) ?_
          refine lv_icmp_ne (tgt := 85) hx hb d_Sh_namesWrongUnit_78 (by decide) (fun c10 => ?_) (fun c10 => ?_)
          · rw [if_neg c10] at h
            refine lv_iconst (v := 0) hx hb d_Sh_namesWrongUnit_85 (by decide) ?_
            cases h
            subst hQ
            exact k_zret hx hb hr hlk (Or.inl rfl) hP hK hD hS d_Sh_namesWrongUnit_86
          · rw [if_pos c10] at h
            refine lv_iconst (v := 1) hx hb d_Sh_namesWrongUnit_81 (by decide) ?_
            refine lv_goto (tgt := 86) hx hb d_Sh_namesWrongUnit_82 (by decide) ?_
            cases h
            subst hQ
            exact k_zret hx hb hr hlk (Or.inr rfl) hP hK hD hS d_Sh_namesWrongUnit_86
    · rw [if_neg c6] at h
      by_cases c11 : (sh_number sh) = (15 : Int32)
      · rw [if_pos c11] at h
        refine k_sw c11 ?_
        refine lv_lookup (tgt := 87) hx hb d_Sh_namesWrongUnit_4 (by decide) rfl (by decide) ?_
        refine lv_aload_n hx hb d_Sh_namesWrongUnit_87 rfl (lv_at hl 0 rfl) ?_
        refine rd_Sh_a hx hb hts hown hK hP lk_70 (v := (sh_a sh)) rfl d_Sh_namesWrongUnit_88 ?_
        refine lv_if_lt (tgt := 120) hx hb d_Sh_namesWrongUnit_91 (by decide) (fun c12 => ?_) (fun c12 => ?_)
        · rw [if_pos c12] at h
          refine lv_iconst (v := 1) hx hb d_Sh_namesWrongUnit_120 (by decide) ?_
          refine lv_goto (tgt := 125) hx hb d_Sh_namesWrongUnit_121 (by decide) ?_
          cases h
          subst hQ
          exact k_zret hx hb hr hlk (Or.inr rfl) hP hK hD hS d_Sh_namesWrongUnit_125
        · rw [if_neg c12] at h
          refine lv_aload_n hx hb d_Sh_namesWrongUnit_94 rfl (lv_at hl 0 rfl) ?_
          refine rd_Sh_a hx hb hts hown hK hP lk_70 (v := (sh_a sh)) rfl d_Sh_namesWrongUnit_95 ?_
          refine lv_aload_n hx hb d_Sh_namesWrongUnit_98 rfl (lv_at hl 0 rfl) ?_
          refine rd_Sh_unit hx hb hts hown hK hP lk_67 (v := (sh_unit sh)) rfl d_Sh_namesWrongUnit_99 ?_
          refine lv_icmp_ge (tgt := 120) hx hb d_Sh_namesWrongUnit_102 (by decide) (fun c13 => ?_) (fun c13 => ?_)
          · rw [if_pos c13] at h
            refine lv_iconst (v := 1) hx hb d_Sh_namesWrongUnit_120 (by decide) ?_
            refine lv_goto (tgt := 125) hx hb d_Sh_namesWrongUnit_121 (by decide) ?_
            cases h
            subst hQ
            exact k_zret hx hb hr hlk (Or.inr rfl) hP hK hD hS d_Sh_namesWrongUnit_125
          · rw [if_neg c13] at h
            refine lv_aload_n hx hb d_Sh_namesWrongUnit_105 rfl (lv_at hl 0 rfl) ?_
            refine rd_Sh_code hx hb hts hown hK hP lk_66 d_Sh_namesWrongUnit_106 ?_
            refine lv_aload_n hx hb d_Sh_namesWrongUnit_109 rfl (lv_at hl 0 rfl) ?_
            refine rd_Sh_a hx hb hts hown hK hP lk_70 (v := (sh_a sh)) rfl d_Sh_namesWrongUnit_110 ?_
            obtain ⟨q14, hq14, h⟩ := Option.bind_eq_some_iff.mp h
            refine k_I (k_runVN ⟨hx, hb, hml, hown, hts⟩ (c_Co_placeOf rfl hq14) ok_Co_placeOf is_Co_placeOf lk_332 rfl rfl ⟨by decide, by decide⟩ hP hK hD hS hA hz (ci := 1) (q0 := 1) rfl rfl ob_Co rfl hl.1 rfl (Nat.le_of_ble_eq_true rfl) d_Sh_namesWrongUnit_113 ⟨Nat.zero_le _, Nat.zero_le _⟩) hD hS hA (fun H locs hP hD hS => ?_)
            refine lv_iconst (v := -1) hx hb d_Sh_namesWrongUnit_116 (by decide) ?_
            refine lv_icmp_eq (tgt := 124) hx hb d_Sh_namesWrongUnit_117 (by decide) (fun c15 => ?_) (fun c15 => ?_)
            · rw [if_pos c15] at h
              refine lv_iconst (v := 0) hx hb d_Sh_namesWrongUnit_124 (by decide) ?_
              cases h
              subst hQ
              exact k_zret hx hb hr hlk (Or.inl rfl) hP hK hD hS d_Sh_namesWrongUnit_125
            · rw [if_neg c15] at h
              refine lv_iconst (v := 1) hx hb d_Sh_namesWrongUnit_120 (by decide) ?_
              refine lv_goto (tgt := 125) hx hb d_Sh_namesWrongUnit_121 (by decide) ?_
              cases h
              subst hQ
              exact k_zret hx hb hr hlk (Or.inr rfl) hP hK hD hS d_Sh_namesWrongUnit_125
      · rw [if_neg c11] at h
        by_cases c16 : (sh_number sh) = (16 : Int32)
        · rw [if_pos c16] at h
          refine k_sw c16 ?_
          refine lv_lookup (tgt := 48) hx hb d_Sh_namesWrongUnit_4 (by decide) rfl (by decide) ?_
          refine lv_aload_n hx hb d_Sh_namesWrongUnit_48 rfl (lv_at hl 0 rfl) ?_
          refine rd_Sh_a hx hb hts hown hK hP lk_70 (v := (sh_a sh)) rfl d_Sh_namesWrongUnit_49 ?_
          refine lv_if_lt (tgt := 81) hx hb d_Sh_namesWrongUnit_52 (by decide) (fun c17 => ?_) (fun c17 => ?_)
          · rw [if_pos c17] at h
            refine lv_iconst (v := 1) hx hb d_Sh_namesWrongUnit_81 (by decide) ?_
            refine lv_goto (tgt := 86) hx hb d_Sh_namesWrongUnit_82 (by decide) ?_
            cases h
            subst hQ
            exact k_zret hx hb hr hlk (Or.inr rfl) hP hK hD hS d_Sh_namesWrongUnit_86
          · rw [if_neg c17] at h
            refine lv_aload_n hx hb d_Sh_namesWrongUnit_55 rfl (lv_at hl 0 rfl) ?_
            refine rd_Sh_a hx hb hts hown hK hP lk_70 (v := (sh_a sh)) rfl d_Sh_namesWrongUnit_56 ?_
            refine lv_aload_n hx hb d_Sh_namesWrongUnit_59 rfl (lv_at hl 0 rfl) ?_
            refine rd_Sh_unit hx hb hts hown hK hP lk_67 (v := (sh_unit sh)) rfl d_Sh_namesWrongUnit_60 ?_
            refine lv_icmp_ge (tgt := 81) hx hb d_Sh_namesWrongUnit_63 (by decide) (fun c18 => ?_) (fun c18 => ?_)
            · rw [if_pos c18] at h
              refine lv_iconst (v := 1) hx hb d_Sh_namesWrongUnit_81 (by decide) ?_
              refine lv_goto (tgt := 86) hx hb d_Sh_namesWrongUnit_82 (by decide) ?_
              cases h
              subst hQ
              exact k_zret hx hb hr hlk (Or.inr rfl) hP hK hD hS d_Sh_namesWrongUnit_86
            · rw [if_neg c18] at h
              refine lv_aload_n hx hb d_Sh_namesWrongUnit_66 rfl (lv_at hl 0 rfl) ?_
              refine rd_Sh_code hx hb hts hown hK hP lk_66 d_Sh_namesWrongUnit_67 ?_
              refine lv_aload_n hx hb d_Sh_namesWrongUnit_70 rfl (lv_at hl 0 rfl) ?_
              refine rd_Sh_a hx hb hts hown hK hP lk_70 (v := (sh_a sh)) rfl d_Sh_namesWrongUnit_71 ?_
              obtain ⟨q19, hq19, h⟩ := Option.bind_eq_some_iff.mp h
              refine k_I (k_runVN ⟨hx, hb, hml, hown, hts⟩ (c_Co_placeOf rfl hq19) ok_Co_placeOf is_Co_placeOf lk_332 rfl rfl ⟨by decide, by decide⟩ hP hK hD hS hA hz (ci := 1) (q0 := 1) rfl rfl ob_Co rfl hl.1 rfl (Nat.le_of_ble_eq_true rfl) d_Sh_namesWrongUnit_74 ⟨Nat.zero_le _, Nat.zero_le _⟩) hD hS hA (fun H locs hP hD hS => ?_)
              refine lv_iconst (v := -1) hx hb d_Sh_namesWrongUnit_77 (by decide) ?_
              refine lv_icmp_ne (tgt := 85) hx hb d_Sh_namesWrongUnit_78 (by decide) (fun c20 => ?_) (fun c20 => ?_)
              · rw [if_neg c20] at h
                refine lv_iconst (v := 0) hx hb d_Sh_namesWrongUnit_85 (by decide) ?_
                cases h
                subst hQ
                exact k_zret hx hb hr hlk (Or.inl rfl) hP hK hD hS d_Sh_namesWrongUnit_86
              · rw [if_pos c20] at h
                refine lv_iconst (v := 1) hx hb d_Sh_namesWrongUnit_81 (by decide) ?_
                refine lv_goto (tgt := 86) hx hb d_Sh_namesWrongUnit_82 (by decide) ?_
                cases h
                subst hQ
                exact k_zret hx hb hr hlk (Or.inr rfl) hP hK hD hS d_Sh_namesWrongUnit_86
        · rw [if_neg c16] at h
          refine lv_lookup (off := 122) (tgt := 126) hx hb d_Sh_namesWrongUnit_4 (by decide) (by rw [lv_osw c1 (by decide), lv_osw c6 (by decide), lv_osw c11 (by decide), lv_osw c16 (by decide)] <;> rfl) (by decide) ?_
          refine lv_iconst (v := 0) hx hb d_Sh_namesWrongUnit_126 (by decide) ?_
          cases h
          subst hQ
          exact k_zret hx hb hr hlk (Or.inl rfl) hP hK hD hS d_Sh_namesWrongUnit_127
theorem d_Sh_isInstruction_0 : decode b_Sh_isInstruction 0 = .ok (.aload_n 0, 1) := by decide +kernel
theorem d_Sh_isInstruction_1 : decode b_Sh_isInstruction 1 = .ok (.getfield 65, 3) := by decide +kernel
theorem d_Sh_isInstruction_4 : decode b_Sh_isInstruction 4 = .ok (.tableswitch 178 3 17 #[164, 164, 178, 178, 76, 98, 178, 178, 178, 120, 178, 178, 178, 178, 142], 76) := by decide +kernel
theorem d_Sh_isInstruction_80 : decode b_Sh_isInstruction 80 = .ok (.aload_n 0, 1) := by decide +kernel
theorem d_Sh_isInstruction_81 : decode b_Sh_isInstruction 81 = .ok (.getfield 71, 3) := by decide +kernel
theorem d_Sh_isInstruction_84 : decode b_Sh_isInstruction 84 = .ok (.ifCond .lt 16, 3) := by decide +kernel
theorem d_Sh_isInstruction_87 : decode b_Sh_isInstruction 87 = .ok (.aload_n 0, 1) := by decide +kernel
theorem d_Sh_isInstruction_88 : decode b_Sh_isInstruction 88 = .ok (.getfield 71, 3) := by decide +kernel
theorem d_Sh_isInstruction_91 : decode b_Sh_isInstruction 91 = .ok (.bipush 24, 2) := by decide +kernel
theorem d_Sh_isInstruction_93 : decode b_Sh_isInstruction 93 = .ok (.if_icmp .gt 7, 3) := by decide +kernel
theorem d_Sh_isInstruction_96 : decode b_Sh_isInstruction 96 = .ok (.iconst 1, 1) := by decide +kernel
theorem d_Sh_isInstruction_97 : decode b_Sh_isInstruction 97 = .ok (.goto 4, 3) := by decide +kernel
theorem d_Sh_isInstruction_100 : decode b_Sh_isInstruction 100 = .ok (.iconst 0, 1) := by decide +kernel
theorem d_Sh_isInstruction_101 : decode b_Sh_isInstruction 101 = .ok (.ireturn, 1) := by decide +kernel
theorem d_Sh_isInstruction_102 : decode b_Sh_isInstruction 102 = .ok (.aload_n 0, 1) := by decide +kernel
theorem d_Sh_isInstruction_103 : decode b_Sh_isInstruction 103 = .ok (.getfield 71, 3) := by decide +kernel
theorem d_Sh_isInstruction_106 : decode b_Sh_isInstruction 106 = .ok (.ifCond .lt 16, 3) := by decide +kernel
theorem d_Sh_isInstruction_109 : decode b_Sh_isInstruction 109 = .ok (.aload_n 0, 1) := by decide +kernel
theorem d_Sh_isInstruction_110 : decode b_Sh_isInstruction 110 = .ok (.getfield 71, 3) := by decide +kernel
theorem d_Sh_isInstruction_113 : decode b_Sh_isInstruction 113 = .ok (.bipush 7, 2) := by decide +kernel
theorem d_Sh_isInstruction_115 : decode b_Sh_isInstruction 115 = .ok (.if_icmp .gt 7, 3) := by decide +kernel
theorem d_Sh_isInstruction_118 : decode b_Sh_isInstruction 118 = .ok (.iconst 1, 1) := by decide +kernel
theorem d_Sh_isInstruction_119 : decode b_Sh_isInstruction 119 = .ok (.goto 4, 3) := by decide +kernel
theorem d_Sh_isInstruction_122 : decode b_Sh_isInstruction 122 = .ok (.iconst 0, 1) := by decide +kernel
theorem d_Sh_isInstruction_123 : decode b_Sh_isInstruction 123 = .ok (.ireturn, 1) := by decide +kernel
theorem d_Sh_isInstruction_124 : decode b_Sh_isInstruction 124 = .ok (.aload_n 0, 1) := by decide +kernel
theorem d_Sh_isInstruction_125 : decode b_Sh_isInstruction 125 = .ok (.getfield 77, 3) := by decide +kernel
theorem d_Sh_isInstruction_128 : decode b_Sh_isInstruction 128 = .ok (.ifCond .lt 16, 3) := by decide +kernel
theorem d_Sh_isInstruction_131 : decode b_Sh_isInstruction 131 = .ok (.aload_n 0, 1) := by decide +kernel
theorem d_Sh_isInstruction_132 : decode b_Sh_isInstruction 132 = .ok (.getfield 77, 3) := by decide +kernel
theorem d_Sh_isInstruction_135 : decode b_Sh_isInstruction 135 = .ok (.ldc 102, 2) := by decide +kernel
theorem d_Sh_isInstruction_137 : decode b_Sh_isInstruction 137 = .ok (.if_icmp .gt 7, 3) := by decide +kernel
theorem d_Sh_isInstruction_140 : decode b_Sh_isInstruction 140 = .ok (.iconst 1, 1) := by decide +kernel
theorem d_Sh_isInstruction_141 : decode b_Sh_isInstruction 141 = .ok (.goto 4, 3) := by decide +kernel
theorem d_Sh_isInstruction_144 : decode b_Sh_isInstruction 144 = .ok (.iconst 0, 1) := by decide +kernel
theorem d_Sh_isInstruction_145 : decode b_Sh_isInstruction 145 = .ok (.ireturn, 1) := by decide +kernel
theorem d_Sh_isInstruction_146 : decode b_Sh_isInstruction 146 = .ok (.aload_n 0, 1) := by decide +kernel
theorem d_Sh_isInstruction_147 : decode b_Sh_isInstruction 147 = .ok (.getfield 71, 3) := by decide +kernel
theorem d_Sh_isInstruction_150 : decode b_Sh_isInstruction 150 = .ok (.ifCond .lt 16, 3) := by decide +kernel
theorem d_Sh_isInstruction_153 : decode b_Sh_isInstruction 153 = .ok (.aload_n 0, 1) := by decide +kernel
theorem d_Sh_isInstruction_154 : decode b_Sh_isInstruction 154 = .ok (.getfield 71, 3) := by decide +kernel
theorem d_Sh_isInstruction_157 : decode b_Sh_isInstruction 157 = .ok (.bipush 8, 2) := by decide +kernel
theorem d_Sh_isInstruction_159 : decode b_Sh_isInstruction 159 = .ok (.if_icmp .gt 7, 3) := by decide +kernel
theorem d_Sh_isInstruction_162 : decode b_Sh_isInstruction 162 = .ok (.iconst 1, 1) := by decide +kernel
theorem d_Sh_isInstruction_163 : decode b_Sh_isInstruction 163 = .ok (.goto 4, 3) := by decide +kernel
theorem d_Sh_isInstruction_166 : decode b_Sh_isInstruction 166 = .ok (.iconst 0, 1) := by decide +kernel
theorem d_Sh_isInstruction_167 : decode b_Sh_isInstruction 167 = .ok (.ireturn, 1) := by decide +kernel
theorem d_Sh_isInstruction_168 : decode b_Sh_isInstruction 168 = .ok (.aload_n 0, 1) := by decide +kernel
theorem d_Sh_isInstruction_169 : decode b_Sh_isInstruction 169 = .ok (.getfield 83, 3) := by decide +kernel
theorem d_Sh_isInstruction_172 : decode b_Sh_isInstruction 172 = .ok (.iconst 1, 1) := by decide +kernel
theorem d_Sh_isInstruction_173 : decode b_Sh_isInstruction 173 = .ok (.if_icmp .lt 7, 3) := by decide +kernel
theorem d_Sh_isInstruction_176 : decode b_Sh_isInstruction 176 = .ok (.iconst 1, 1) := by decide +kernel
theorem d_Sh_isInstruction_177 : decode b_Sh_isInstruction 177 = .ok (.goto 4, 3) := by decide +kernel
theorem d_Sh_isInstruction_180 : decode b_Sh_isInstruction 180 = .ok (.iconst 0, 1) := by decide +kernel
theorem d_Sh_isInstruction_181 : decode b_Sh_isInstruction 181 = .ok (.ireturn, 1) := by decide +kernel
theorem d_Sh_isInstruction_182 : decode b_Sh_isInstruction 182 = .ok (.aload_n 0, 1) := by decide +kernel
theorem d_Sh_isInstruction_183 : decode b_Sh_isInstruction 183 = .ok (.getfield 65, 3) := by decide +kernel
theorem d_Sh_isInstruction_186 : decode b_Sh_isInstruction 186 = .ok (.ifCond .lt 16, 3) := by decide +kernel
theorem d_Sh_isInstruction_189 : decode b_Sh_isInstruction 189 = .ok (.aload_n 0, 1) := by decide +kernel
theorem d_Sh_isInstruction_190 : decode b_Sh_isInstruction 190 = .ok (.getfield 65, 3) := by decide +kernel
theorem d_Sh_isInstruction_193 : decode b_Sh_isInstruction 193 = .ok (.bipush 18, 2) := by decide +kernel
theorem d_Sh_isInstruction_195 : decode b_Sh_isInstruction 195 = .ok (.if_icmp .gt 7, 3) := by decide +kernel
theorem d_Sh_isInstruction_198 : decode b_Sh_isInstruction 198 = .ok (.iconst 1, 1) := by decide +kernel
theorem d_Sh_isInstruction_199 : decode b_Sh_isInstruction 199 = .ok (.goto 4, 3) := by decide +kernel
theorem d_Sh_isInstruction_202 : decode b_Sh_isInstruction 202 = .ok (.iconst 0, 1) := by decide +kernel
theorem d_Sh_isInstruction_203 : decode b_Sh_isInstruction 203 = .ok (.ireturn, 1) := by decide +kernel
def r_Sh_isInstruction_j182 (n : Nat) (sh : T_sh)   : Option (Int32) := if (sh_number sh) < 0 then some ((0 : Int32)) else if (18 : Int32) < (sh_number sh) then some ((0 : Int32)) else some ((1 : Int32))
def r_Sh_isInstruction (n : Nat) (sh : T_sh)  : Option (Int32) := if (sh_number sh) = (3 : Int32) then if (sh_c sh) < (1 : Int32) then some ((0 : Int32)) else some ((1 : Int32)) else if (sh_number sh) = (4 : Int32) then if (sh_c sh) < (1 : Int32) then some ((0 : Int32)) else some ((1 : Int32)) else if (sh_number sh) = (7 : Int32) then if (sh_a sh) < 0 then some ((0 : Int32)) else if (24 : Int32) < (sh_a sh) then some ((0 : Int32)) else some ((1 : Int32)) else if (sh_number sh) = (8 : Int32) then if (sh_a sh) < 0 then some ((0 : Int32)) else if (7 : Int32) < (sh_a sh) then some ((0 : Int32)) else some ((1 : Int32)) else if (sh_number sh) = (12 : Int32) then if (sh_b sh) < 0 then some ((0 : Int32)) else if (1000000 : Int32) < (sh_b sh) then some ((0 : Int32)) else some ((1 : Int32)) else if (sh_number sh) = (17 : Int32) then if (sh_a sh) < 0 then some ((0 : Int32)) else if (8 : Int32) < (sh_a sh) then some ((0 : Int32)) else some ((1 : Int32)) else r_Sh_isInstruction_j182 n sh
def rm_Sh_isInstruction : Jvm.Room := { frames := 0, cells := 0, slots := 0, locals := 0 }
set_option maxHeartbeats 4000000 in
set_option maxRecDepth 100000 in
theorem c_Sh_isInstruction {l : Launch} {D : va_G} {cI cL : ClassId} {ad : Nat → Nat} {ma : T_ma} {ko : T_ko} {sh : T_sh} {lo : T_lo} {de : T_de} {wa : T_wa} {me : T_me} {ru : T_ru} {ws0 : va_W} {sz n : Nat}  {r9 : Int32} (hw : ws0 = (wX cI cL ad ma ko sh lo de wa me ru)) (h : r_Sh_isInstruction n sh  = some r9) : Met l y_Sh_isInstruction (Cond.code y_Sh_isInstruction b_Sh_isInstruction 1 (some .boolean) :: TB) rm_Sh_isInstruction (PreW D clX (tyX cI cL) ws0 [.ref (ad 10)] sz) (PstI D clX (tyX cI cL) ws0 (wX cI cL ad ma ko sh lo de wa me ru) sz r9) 0 0 (va_A ws0 sz) := by
  refine k_met (by decide) (Nat.le_of_ble_eq_true rfl) ?_
  intro p e s m below meth c ls hx hb hr hml hts hown hlk hnm hsz hP hK hD hA hz hl
  have hP : va_P D clX (wX cI cL ad ma ko sh lo de wa me ru) s.heap := by rw [← hw]; exact hP
  have hD : va_D (va_A ws0 sz) (wX cI cL ad ma ko sh lo de wa me ru) := by rw [← hw]; exact hD
  have hS : va_S (va_A ws0 sz) s.heap s.heap [] := va_S.rf
  have hl : lv_has ls 1 [(0, .ref (ad 10))] := hl
  generalize hQ : MQ below (PstI D clX (tyX cI cL) ws0 (wX cI cL ad ma ko sh lo de wa me ru) sz r9) [.ref (ad 10)].toArray s 0 0 (va_A ws0 sz) = Q
  have J182 : ∀ (H : Heap) (locs : List Loc) (ls : Array Slot), r_Sh_isInstruction_j182 n sh = some r9 → va_P D clX (wX cI cL ad ma ko sh lo de wa me ru) H → va_D (va_A ws0 sz) (wX cI cL ad ma ko sh lo de wa me ru) → va_S (va_A ws0 sz) s.heap H locs → lv_has ls 1 [(0, .ref (ad 10))] → W p l e rm_Sh_isInstruction s m [.ref (ad 10)].toArray below meth c H locs 0 0 Q (F0 m 182 ls []) := by
    intro H locs ls h hP hD hS hl
    unfold r_Sh_isInstruction_j182 at h
    refine lv_aload_n hx hb d_Sh_isInstruction_182 rfl (lv_at hl 0 rfl) ?_
    refine rd_Sh_number hx hb hts hown hK hP lk_69 (v := (sh_number sh)) rfl d_Sh_isInstruction_183 ?_
    refine lv_if_lt (tgt := 202) hx hb d_Sh_isInstruction_186 (by decide) (fun c1 => ?_) (fun c1 => ?_)
    · rw [if_pos c1] at h
      refine lv_iconst (v := 0) hx hb d_Sh_isInstruction_202 (by decide) ?_
      cases h
      subst hQ
      exact k_zret hx hb hr hlk (Or.inl rfl) hP hK hD hS d_Sh_isInstruction_203
    · rw [if_neg c1] at h
      refine lv_aload_n hx hb d_Sh_isInstruction_189 rfl (lv_at hl 0 rfl) ?_
      refine rd_Sh_number hx hb hts hown hK hP lk_69 (v := (sh_number sh)) rfl d_Sh_isInstruction_190 ?_
      refine lv_bipush (v := 18) hx hb d_Sh_isInstruction_193 (by decide) ?_
      refine lv_icmp_gt (tgt := 202) hx hb d_Sh_isInstruction_195 (by decide) (fun c2 => ?_) (fun c2 => ?_)
      · rw [if_pos c2] at h
        refine lv_iconst (v := 0) hx hb d_Sh_isInstruction_202 (by decide) ?_
        cases h
        subst hQ
        exact k_zret hx hb hr hlk (Or.inl rfl) hP hK hD hS d_Sh_isInstruction_203
      · rw [if_neg c2] at h
        refine lv_iconst (v := 1) hx hb d_Sh_isInstruction_198 (by decide) ?_
        refine lv_goto (tgt := 203) hx hb d_Sh_isInstruction_199 (by decide) ?_
        cases h
        subst hQ
        exact k_zret hx hb hr hlk (Or.inr rfl) hP hK hD hS d_Sh_isInstruction_203
  unfold r_Sh_isInstruction at h
  refine lv_aload_n hx hb d_Sh_isInstruction_0 rfl (lv_at hl 0 rfl) ?_
  refine rd_Sh_number hx hb hts hown hK hP lk_69 (v := (sh_number sh)) rfl d_Sh_isInstruction_1 ?_
  by_cases c3 : (sh_number sh) = (3 : Int32)
  · rw [if_pos c3] at h
    refine k_sw c3 ?_
    refine lv_tableIn (tgt := 168) hx hb d_Sh_isInstruction_4 (by decide) (by decide) rfl (by decide) ?_
    refine lv_aload_n hx hb d_Sh_isInstruction_168 rfl (lv_at hl 0 rfl) ?_
    refine rd_Sh_c hx hb hts hown hK hP lk_72 (v := (sh_c sh)) rfl d_Sh_isInstruction_169 ?_
    refine lv_iconst (v := 1) hx hb d_Sh_isInstruction_172 (by decide) ?_
    refine lv_icmp_lt (tgt := 180) hx hb d_Sh_isInstruction_173 (by decide) (fun c4 => ?_) (fun c4 => ?_)
    · rw [if_pos c4] at h
      refine lv_iconst (v := 0) hx hb d_Sh_isInstruction_180 (by decide) ?_
      cases h
      subst hQ
      exact k_zret hx hb hr hlk (Or.inl rfl) hP hK hD hS d_Sh_isInstruction_181
    · rw [if_neg c4] at h
      refine lv_iconst (v := 1) hx hb d_Sh_isInstruction_176 (by decide) ?_
      refine lv_goto (tgt := 181) hx hb d_Sh_isInstruction_177 (by decide) ?_
      cases h
      subst hQ
      exact k_zret hx hb hr hlk (Or.inr rfl) hP hK hD hS d_Sh_isInstruction_181
  · rw [if_neg c3] at h
    by_cases c5 : (sh_number sh) = (4 : Int32)
    · rw [if_pos c5] at h
      refine k_sw c5 ?_
      refine lv_tableIn (tgt := 168) hx hb d_Sh_isInstruction_4 (by decide) (by decide) rfl (by decide) ?_
      refine lv_aload_n hx hb d_Sh_isInstruction_168 rfl (lv_at hl 0 rfl) ?_
      refine rd_Sh_c hx hb hts hown hK hP lk_72 (v := (sh_c sh)) rfl d_Sh_isInstruction_169 ?_
      refine lv_iconst (v := 1) hx hb d_Sh_isInstruction_172 (by decide) ?_
      refine lv_icmp_lt (tgt := 180) hx hb d_Sh_isInstruction_173 (by decide) (fun c6 => ?_) (fun c6 => ?_)
      · rw [if_pos c6] at h
        refine lv_iconst (v := 0) hx hb d_Sh_isInstruction_180 (by decide) ?_
        cases h
        subst hQ
        exact k_zret hx hb hr hlk (Or.inl rfl) hP hK hD hS d_Sh_isInstruction_181
      · rw [if_neg c6] at h
        refine lv_iconst (v := 1) hx hb d_Sh_isInstruction_176 (by decide) ?_
        refine lv_goto (tgt := 181) hx hb d_Sh_isInstruction_177 (by decide) ?_
        cases h
        subst hQ
        exact k_zret hx hb hr hlk (Or.inr rfl) hP hK hD hS d_Sh_isInstruction_181
    · rw [if_neg c5] at h
      by_cases c7 : (sh_number sh) = (7 : Int32)
      · rw [if_pos c7] at h
        refine k_sw c7 ?_
        refine lv_tableIn (tgt := 80) hx hb d_Sh_isInstruction_4 (by decide) (by decide) rfl (by decide) ?_
        refine lv_aload_n hx hb d_Sh_isInstruction_80 rfl (lv_at hl 0 rfl) ?_
        refine rd_Sh_a hx hb hts hown hK hP lk_70 (v := (sh_a sh)) rfl d_Sh_isInstruction_81 ?_
        refine lv_if_lt (tgt := 100) hx hb d_Sh_isInstruction_84 (by decide) (fun c8 => ?_) (fun c8 => ?_)
        · rw [if_pos c8] at h
          refine lv_iconst (v := 0) hx hb d_Sh_isInstruction_100 (by decide) ?_
          cases h
          subst hQ
          exact k_zret hx hb hr hlk (Or.inl rfl) hP hK hD hS d_Sh_isInstruction_101
        · rw [if_neg c8] at h
          refine lv_aload_n hx hb d_Sh_isInstruction_87 rfl (lv_at hl 0 rfl) ?_
          refine rd_Sh_a hx hb hts hown hK hP lk_70 (v := (sh_a sh)) rfl d_Sh_isInstruction_88 ?_
          refine lv_bipush (v := 24) hx hb d_Sh_isInstruction_91 (by decide) ?_
          refine lv_icmp_gt (tgt := 100) hx hb d_Sh_isInstruction_93 (by decide) (fun c9 => ?_) (fun c9 => ?_)
          · rw [if_pos c9] at h
            refine lv_iconst (v := 0) hx hb d_Sh_isInstruction_100 (by decide) ?_
            cases h
            subst hQ
            exact k_zret hx hb hr hlk (Or.inl rfl) hP hK hD hS d_Sh_isInstruction_101
          · rw [if_neg c9] at h
            refine lv_iconst (v := 1) hx hb d_Sh_isInstruction_96 (by decide) ?_
            refine lv_goto (tgt := 101) hx hb d_Sh_isInstruction_97 (by decide) ?_
            cases h
            subst hQ
            exact k_zret hx hb hr hlk (Or.inr rfl) hP hK hD hS d_Sh_isInstruction_101
      · rw [if_neg c7] at h
        by_cases c10 : (sh_number sh) = (8 : Int32)
        · rw [if_pos c10] at h
          refine k_sw c10 ?_
          refine lv_tableIn (tgt := 102) hx hb d_Sh_isInstruction_4 (by decide) (by decide) rfl (by decide) ?_
          refine lv_aload_n hx hb d_Sh_isInstruction_102 rfl (lv_at hl 0 rfl) ?_
          refine rd_Sh_a hx hb hts hown hK hP lk_70 (v := (sh_a sh)) rfl d_Sh_isInstruction_103 ?_
          refine lv_if_lt (tgt := 122) hx hb d_Sh_isInstruction_106 (by decide) (fun c11 => ?_) (fun c11 => ?_)
          · rw [if_pos c11] at h
            refine lv_iconst (v := 0) hx hb d_Sh_isInstruction_122 (by decide) ?_
            cases h
            subst hQ
            exact k_zret hx hb hr hlk (Or.inl rfl) hP hK hD hS d_Sh_isInstruction_123
          · rw [if_neg c11] at h
            refine lv_aload_n hx hb d_Sh_isInstruction_109 rfl (lv_at hl 0 rfl) ?_
            refine rd_Sh_a hx hb hts hown hK hP lk_70 (v := (sh_a sh)) rfl d_Sh_isInstruction_110 ?_
            refine lv_bipush (v := 7) hx hb d_Sh_isInstruction_113 (by decide) ?_
            refine lv_icmp_gt (tgt := 122) hx hb d_Sh_isInstruction_115 (by decide) (fun c12 => ?_) (fun c12 => ?_)
            · rw [if_pos c12] at h
              refine lv_iconst (v := 0) hx hb d_Sh_isInstruction_122 (by decide) ?_
              cases h
              subst hQ
              exact k_zret hx hb hr hlk (Or.inl rfl) hP hK hD hS d_Sh_isInstruction_123
            · rw [if_neg c12] at h
              refine lv_iconst (v := 1) hx hb d_Sh_isInstruction_118 (by decide) ?_
              refine lv_goto (tgt := 123) hx hb d_Sh_isInstruction_119 (by decide) ?_
              cases h
              subst hQ
              exact k_zret hx hb hr hlk (Or.inr rfl) hP hK hD hS d_Sh_isInstruction_123
        · rw [if_neg c10] at h
          by_cases c13 : (sh_number sh) = (12 : Int32)
          · rw [if_pos c13] at h
            refine k_sw c13 ?_
            refine lv_tableIn (tgt := 124) hx hb d_Sh_isInstruction_4 (by decide) (by decide) rfl (by decide) ?_
            refine lv_aload_n hx hb d_Sh_isInstruction_124 rfl (lv_at hl 0 rfl) ?_
            refine rd_Sh_b hx hb hts hown hK hP lk_71 (v := (sh_b sh)) rfl d_Sh_isInstruction_125 ?_
            refine lv_if_lt (tgt := 144) hx hb d_Sh_isInstruction_128 (by decide) (fun c14 => ?_) (fun c14 => ?_)
            · rw [if_pos c14] at h
              refine lv_iconst (v := 0) hx hb d_Sh_isInstruction_144 (by decide) ?_
              cases h
              subst hQ
              exact k_zret hx hb hr hlk (Or.inl rfl) hP hK hD hS d_Sh_isInstruction_145
            · rw [if_neg c14] at h
              refine lv_aload_n hx hb d_Sh_isInstruction_131 rfl (lv_at hl 0 rfl) ?_
              refine rd_Sh_b hx hb hts hown hK hP lk_71 (v := (sh_b sh)) rfl d_Sh_isInstruction_132 ?_
              refine lv_ldc (v := 1000000) hx hb hown (hts _ lk_391) d_Sh_isInstruction_135 ?_
              refine lv_icmp_gt (tgt := 144) hx hb d_Sh_isInstruction_137 (by decide) (fun c15 => ?_) (fun c15 => ?_)
              · rw [if_pos c15] at h
                refine lv_iconst (v := 0) hx hb d_Sh_isInstruction_144 (by decide) ?_
                cases h
                subst hQ
                exact k_zret hx hb hr hlk (Or.inl rfl) hP hK hD hS d_Sh_isInstruction_145
              · rw [if_neg c15] at h
                refine lv_iconst (v := 1) hx hb d_Sh_isInstruction_140 (by decide) ?_
                refine lv_goto (tgt := 145) hx hb d_Sh_isInstruction_141 (by decide) ?_
                cases h
                subst hQ
                exact k_zret hx hb hr hlk (Or.inr rfl) hP hK hD hS d_Sh_isInstruction_145
          · rw [if_neg c13] at h
            by_cases c16 : (sh_number sh) = (17 : Int32)
            · rw [if_pos c16] at h
              refine k_sw c16 ?_
              refine lv_tableIn (tgt := 146) hx hb d_Sh_isInstruction_4 (by decide) (by decide) rfl (by decide) ?_
              refine lv_aload_n hx hb d_Sh_isInstruction_146 rfl (lv_at hl 0 rfl) ?_
              refine rd_Sh_a hx hb hts hown hK hP lk_70 (v := (sh_a sh)) rfl d_Sh_isInstruction_147 ?_
              refine lv_if_lt (tgt := 166) hx hb d_Sh_isInstruction_150 (by decide) (fun c17 => ?_) (fun c17 => ?_)
              · rw [if_pos c17] at h
                refine lv_iconst (v := 0) hx hb d_Sh_isInstruction_166 (by decide) ?_
                cases h
                subst hQ
                exact k_zret hx hb hr hlk (Or.inl rfl) hP hK hD hS d_Sh_isInstruction_167
              · rw [if_neg c17] at h
                refine lv_aload_n hx hb d_Sh_isInstruction_153 rfl (lv_at hl 0 rfl) ?_
                refine rd_Sh_a hx hb hts hown hK hP lk_70 (v := (sh_a sh)) rfl d_Sh_isInstruction_154 ?_
                refine lv_bipush (v := 8) hx hb d_Sh_isInstruction_157 (by decide) ?_
                refine lv_icmp_gt (tgt := 166) hx hb d_Sh_isInstruction_159 (by decide) (fun c18 => ?_) (fun c18 => ?_)
                · rw [if_pos c18] at h
                  refine lv_iconst (v := 0) hx hb d_Sh_isInstruction_166 (by decide) ?_
                  cases h
                  subst hQ
                  exact k_zret hx hb hr hlk (Or.inl rfl) hP hK hD hS d_Sh_isInstruction_167
                · rw [if_neg c18] at h
                  refine lv_iconst (v := 1) hx hb d_Sh_isInstruction_162 (by decide) ?_
                  refine lv_goto (tgt := 167) hx hb d_Sh_isInstruction_163 (by decide) ?_
                  cases h
                  subst hQ
                  exact k_zret hx hb hr hlk (Or.inr rfl) hP hK hD hS d_Sh_isInstruction_167
            · rw [if_neg c16] at h
              by_cases c19 : (sh_number sh) = (5 : Int32)
              · refine k_sw c19 ?_
                refine lv_tableIn (tgt := 182) hx hb d_Sh_isInstruction_4 (by decide) (by decide) rfl (by decide) ?_
                exact J182 _ _ _ h hP hD hS (lv_sub hl [0] rfl)
              ·
                by_cases c20 : (sh_number sh) = (6 : Int32)
                · refine k_sw c20 ?_
                  refine lv_tableIn (tgt := 182) hx hb d_Sh_isInstruction_4 (by decide) (by decide) rfl (by decide) ?_
                  exact J182 _ _ _ h hP hD hS (lv_sub hl [0] rfl)
                ·
                  by_cases c21 : (sh_number sh) = (9 : Int32)
                  · refine k_sw c21 ?_
                    refine lv_tableIn (tgt := 182) hx hb d_Sh_isInstruction_4 (by decide) (by decide) rfl (by decide) ?_
                    exact J182 _ _ _ h hP hD hS (lv_sub hl [0] rfl)
                  ·
                    by_cases c22 : (sh_number sh) = (10 : Int32)
                    · refine k_sw c22 ?_
                      refine lv_tableIn (tgt := 182) hx hb d_Sh_isInstruction_4 (by decide) (by decide) rfl (by decide) ?_
                      exact J182 _ _ _ h hP hD hS (lv_sub hl [0] rfl)
                    ·
                      by_cases c23 : (sh_number sh) = (11 : Int32)
                      · refine k_sw c23 ?_
                        refine lv_tableIn (tgt := 182) hx hb d_Sh_isInstruction_4 (by decide) (by decide) rfl (by decide) ?_
                        exact J182 _ _ _ h hP hD hS (lv_sub hl [0] rfl)
                      ·
                        by_cases c24 : (sh_number sh) = (13 : Int32)
                        · refine k_sw c24 ?_
                          refine lv_tableIn (tgt := 182) hx hb d_Sh_isInstruction_4 (by decide) (by decide) rfl (by decide) ?_
                          exact J182 _ _ _ h hP hD hS (lv_sub hl [0] rfl)
                        ·
                          by_cases c25 : (sh_number sh) = (14 : Int32)
                          · refine k_sw c25 ?_
                            refine lv_tableIn (tgt := 182) hx hb d_Sh_isInstruction_4 (by decide) (by decide) rfl (by decide) ?_
                            exact J182 _ _ _ h hP hD hS (lv_sub hl [0] rfl)
                          ·
                            by_cases c26 : (sh_number sh) = (15 : Int32)
                            · refine k_sw c26 ?_
                              refine lv_tableIn (tgt := 182) hx hb d_Sh_isInstruction_4 (by decide) (by decide) rfl (by decide) ?_
                              exact J182 _ _ _ h hP hD hS (lv_sub hl [0] rfl)
                            ·
                              by_cases c27 : (sh_number sh) = (16 : Int32)
                              · refine k_sw c27 ?_
                                refine lv_tableIn (tgt := 182) hx hb d_Sh_isInstruction_4 (by decide) (by decide) rfl (by decide) ?_
                                exact J182 _ _ _ h hP hD hS (lv_sub hl [0] rfl)
                              ·
                                refine lv_tableOut (tgt := 182) hx hb d_Sh_isInstruction_4 (by have ec3 := lv_neT c3 (a := 3) (by decide); have ec5 := lv_neT c5 (a := 4) (by decide); have ec7 := lv_neT c7 (a := 7) (by decide); have ec10 := lv_neT c10 (a := 8) (by decide); have ec13 := lv_neT c13 (a := 12) (by decide); have ec16 := lv_neT c16 (a := 17) (by decide); have ec19 := lv_neT c19 (a := 5) (by decide); have ec20 := lv_neT c20 (a := 6) (by decide); have ec21 := lv_neT c21 (a := 9) (by decide); have ec22 := lv_neT c22 (a := 10) (by decide); have ec23 := lv_neT c23 (a := 11) (by decide); have ec24 := lv_neT c24 (a := 13) (by decide); have ec25 := lv_neT c25 (a := 14) (by decide); have ec26 := lv_neT c26 (a := 15) (by decide); have ec27 := lv_neT c27 (a := 16) (by decide); omega) (by decide) ?_
                                exact J182 _ _ _ h hP hD hS (lv_sub hl [0] rfl)
theorem d_Sh_faultHere_0 : decode b_Sh_faultHere 0 = .ok (.aload_n 0, 1) := by decide +kernel
theorem d_Sh_faultHere_1 : decode b_Sh_faultHere 1 = .ok (.invokevirtual 86, 3) := by decide +kernel
theorem d_Sh_faultHere_4 : decode b_Sh_faultHere 4 = .ok (.ifCond .ne 5, 3) := by decide +kernel
theorem d_Sh_faultHere_7 : decode b_Sh_faultHere 7 = .ok (.iconst 2, 1) := by decide +kernel
theorem d_Sh_faultHere_8 : decode b_Sh_faultHere 8 = .ok (.ireturn, 1) := by decide +kernel
theorem d_Sh_faultHere_9 : decode b_Sh_faultHere 9 = .ok (.aload_n 0, 1) := by decide +kernel
theorem d_Sh_faultHere_10 : decode b_Sh_faultHere 10 = .ok (.invokevirtual 90, 3) := by decide +kernel
theorem d_Sh_faultHere_13 : decode b_Sh_faultHere 13 = .ok (.ifCond .eq 5, 3) := by decide +kernel
theorem d_Sh_faultHere_16 : decode b_Sh_faultHere 16 = .ok (.iconst 3, 1) := by decide +kernel
theorem d_Sh_faultHere_17 : decode b_Sh_faultHere 17 = .ok (.ireturn, 1) := by decide +kernel
theorem d_Sh_faultHere_18 : decode b_Sh_faultHere 18 = .ok (.aload_n 0, 1) := by decide +kernel
theorem d_Sh_faultHere_19 : decode b_Sh_faultHere 19 = .ok (.invokevirtual 93, 3) := by decide +kernel
theorem d_Sh_faultHere_22 : decode b_Sh_faultHere 22 = .ok (.ifCond .eq 5, 3) := by decide +kernel
theorem d_Sh_faultHere_25 : decode b_Sh_faultHere 25 = .ok (.iconst 4, 1) := by decide +kernel
theorem d_Sh_faultHere_26 : decode b_Sh_faultHere 26 = .ok (.ireturn, 1) := by decide +kernel
theorem d_Sh_faultHere_27 : decode b_Sh_faultHere 27 = .ok (.aload_n 0, 1) := by decide +kernel
theorem d_Sh_faultHere_28 : decode b_Sh_faultHere 28 = .ok (.invokevirtual 96, 3) := by decide +kernel
theorem d_Sh_faultHere_31 : decode b_Sh_faultHere 31 = .ok (.ifCond .eq 5, 3) := by decide +kernel
theorem d_Sh_faultHere_34 : decode b_Sh_faultHere 34 = .ok (.iconst 5, 1) := by decide +kernel
theorem d_Sh_faultHere_35 : decode b_Sh_faultHere 35 = .ok (.ireturn, 1) := by decide +kernel
theorem d_Sh_faultHere_36 : decode b_Sh_faultHere 36 = .ok (.aload_n 0, 1) := by decide +kernel
theorem d_Sh_faultHere_37 : decode b_Sh_faultHere 37 = .ok (.invokevirtual 99, 3) := by decide +kernel
theorem d_Sh_faultHere_40 : decode b_Sh_faultHere 40 = .ok (.ifCond .eq 8, 3) := by decide +kernel
theorem d_Sh_faultHere_43 : decode b_Sh_faultHere 43 = .ok (.bipush 6, 2) := by decide +kernel
theorem d_Sh_faultHere_45 : decode b_Sh_faultHere 45 = .ok (.goto 4, 3) := by decide +kernel
theorem d_Sh_faultHere_48 : decode b_Sh_faultHere 48 = .ok (.iconst 0, 1) := by decide +kernel
theorem d_Sh_faultHere_49 : decode b_Sh_faultHere 49 = .ok (.ireturn, 1) := by decide +kernel
def r_Sh_faultHere (n : Nat) (ko : T_ko) (sh : T_sh)  : Option (Int32) := (r_Sh_isInstruction n sh).bind (fun q1 => if q1 = 0 then some ((2 : Int32)) else (r_Sh_namesWrongUnit n ko sh).bind (fun q3 => if q3 = 0 then (r_Sh_leavesFrame n ko sh).bind (fun q5 => if q5 = 0 then (r_Sh_touchesCounter n ko sh).bind (fun q7 => if q7 = 0 then (r_Sh_goesWrongWay n ko sh).bind (fun q9 => if q9 = 0 then some ((0 : Int32)) else some ((6 : Int32))) else some ((5 : Int32))) else some ((4 : Int32))) else some ((3 : Int32))))
def rm_Sh_faultHere : Jvm.Room := { frames := 4, cells := 0, slots := 0, locals := 89 }
set_option maxHeartbeats 4000000 in
set_option maxRecDepth 100000 in
theorem c_Sh_faultHere {l : Launch} {D : va_G} {cI cL : ClassId} {ad : Nat → Nat} {ma : T_ma} {ko : T_ko} {sh : T_sh} {lo : T_lo} {de : T_de} {wa : T_wa} {me : T_me} {ru : T_ru} {ws0 : va_W} {sz n : Nat}  {r9 : Int32} (hw : ws0 = (wX cI cL ad ma ko sh lo de wa me ru)) (h : r_Sh_faultHere n ko sh  = some r9) : Met l y_Sh_faultHere (Cond.code y_Sh_faultHere b_Sh_faultHere 1 (some .int) :: TB) rm_Sh_faultHere (PreW D clX (tyX cI cL) ws0 [.ref (ad 10)] sz) (PstI D clX (tyX cI cL) ws0 (wX cI cL ad ma ko sh lo de wa me ru) sz r9) 0 0 (va_A ws0 sz) := by
  refine k_met (by decide) (Nat.le_of_ble_eq_true rfl) ?_
  intro p e s m below meth c ls hx hb hr hml hts hown hlk hnm hsz hP hK hD hA hz hl
  have hP : va_P D clX (wX cI cL ad ma ko sh lo de wa me ru) s.heap := by rw [← hw]; exact hP
  have hD : va_D (va_A ws0 sz) (wX cI cL ad ma ko sh lo de wa me ru) := by rw [← hw]; exact hD
  have hS : va_S (va_A ws0 sz) s.heap s.heap [] := va_S.rf
  have hl : lv_has ls 1 [(0, .ref (ad 10))] := hl
  generalize hQ : MQ below (PstI D clX (tyX cI cL) ws0 (wX cI cL ad ma ko sh lo de wa me ru) sz r9) [.ref (ad 10)].toArray s 0 0 (va_A ws0 sz) = Q
  unfold r_Sh_faultHere at h
  refine lv_aload_n hx hb d_Sh_faultHere_0 rfl (lv_at hl 0 rfl) ?_
  obtain ⟨q1, hq1, h⟩ := Option.bind_eq_some_iff.mp h
  refine k_I (k_runV ⟨hx, hb, hml, hown, hts⟩ (c_Sh_isInstruction rfl hq1) ok_Sh_isInstruction is_Sh_isInstruction lk_387 rfl rfl ⟨by decide, by decide⟩ hP hK hD hS hA hz (ci := 2) (q0 := 10) rfl rfl ob_Sh rfl hl.1 rfl (Nat.le_of_ble_eq_true rfl) d_Sh_faultHere_1 ⟨Nat.zero_le _, Nat.zero_le _⟩) hD hS hA (fun H locs hP hD hS => ?_)
  refine lv_if_ne (tgt := 9) hx hb d_Sh_faultHere_4 (by decide) (fun c2 => ?_) (fun c2 => ?_)
  · rw [if_neg c2] at h
    refine lv_aload_n hx hb d_Sh_faultHere_9 rfl (lv_at hl 0 rfl) ?_
    obtain ⟨q3, hq3, h⟩ := Option.bind_eq_some_iff.mp h
    refine k_I (k_runV ⟨hx, hb, hml, hown, hts⟩ (c_Sh_namesWrongUnit rfl hq3) ok_Sh_namesWrongUnit is_Sh_namesWrongUnit lk_392 rfl rfl ⟨by decide, by decide⟩ hP hK hD hS hA hz (ci := 2) (q0 := 10) rfl rfl ob_Sh rfl hl.1 rfl (Nat.le_of_ble_eq_true rfl) d_Sh_faultHere_10 ⟨Nat.zero_le _, Nat.zero_le _⟩) hD hS hA (fun H locs hP hD hS => ?_)
    refine lv_if_eq (tgt := 18) hx hb d_Sh_faultHere_13 (by decide) (fun c4 => ?_) (fun c4 => ?_)
    · rw [if_pos c4] at h
      refine lv_aload_n hx hb d_Sh_faultHere_18 rfl (lv_at hl 0 rfl) ?_
      obtain ⟨q5, hq5, h⟩ := Option.bind_eq_some_iff.mp h
      refine k_I (k_runV ⟨hx, hb, hml, hown, hts⟩ (c_Sh_leavesFrame rfl hq5) ok_Sh_leavesFrame is_Sh_leavesFrame lk_396 rfl rfl ⟨by decide, by decide⟩ hP hK hD hS hA hz (ci := 2) (q0 := 10) rfl rfl ob_Sh rfl hl.1 rfl (Nat.le_of_ble_eq_true rfl) d_Sh_faultHere_19 ⟨Nat.zero_le _, Nat.zero_le _⟩) hD hS hA (fun H locs hP hD hS => ?_)
      refine lv_if_eq (tgt := 27) hx hb d_Sh_faultHere_22 (by decide) (fun c6 => ?_) (fun c6 => ?_)
      · rw [if_pos c6] at h
        refine lv_aload_n hx hb d_Sh_faultHere_27 rfl (lv_at hl 0 rfl) ?_
        obtain ⟨q7, hq7, h⟩ := Option.bind_eq_some_iff.mp h
        refine k_I (k_runV ⟨hx, hb, hml, hown, hts⟩ (c_Sh_touchesCounter rfl hq7) ok_Sh_touchesCounter is_Sh_touchesCounter lk_412 rfl rfl ⟨by decide, by decide⟩ hP hK hD hS hA hz (ci := 2) (q0 := 10) rfl rfl ob_Sh rfl hl.1 rfl (Nat.le_of_ble_eq_true rfl) d_Sh_faultHere_28 ⟨Nat.zero_le _, Nat.zero_le _⟩) hD hS hA (fun H locs hP hD hS => ?_)
        refine lv_if_eq (tgt := 36) hx hb d_Sh_faultHere_31 (by decide) (fun c8 => ?_) (fun c8 => ?_)
        · rw [if_pos c8] at h
          refine lv_aload_n hx hb d_Sh_faultHere_36 rfl (lv_at hl 0 rfl) ?_
          obtain ⟨q9, hq9, h⟩ := Option.bind_eq_some_iff.mp h
          refine k_I (k_runV ⟨hx, hb, hml, hown, hts⟩ (c_Sh_goesWrongWay rfl hq9) ok_Sh_goesWrongWay is_Sh_goesWrongWay lk_416 rfl rfl ⟨by decide, by decide⟩ hP hK hD hS hA hz (ci := 2) (q0 := 10) rfl rfl ob_Sh rfl hl.1 rfl (Nat.le_of_ble_eq_true rfl) d_Sh_faultHere_37 ⟨Nat.zero_le _, Nat.zero_le _⟩) hD hS hA (fun H locs hP hD hS => ?_)
          refine lv_if_eq (tgt := 48) hx hb d_Sh_faultHere_40 (by decide) (fun c10 => ?_) (fun c10 => ?_)
          · rw [if_pos c10] at h
            refine lv_iconst (v := 0) hx hb d_Sh_faultHere_48 (by decide) ?_
            cases h
            subst hQ
            exact k_iret hx hb hr hlk hP hK hD hS d_Sh_faultHere_49
          · rw [if_neg c10] at h
            refine lv_bipush (v := 6) hx hb d_Sh_faultHere_43 (by decide) ?_
            refine lv_goto (tgt := 49) hx hb d_Sh_faultHere_45 (by decide) ?_
            cases h
            subst hQ
            exact k_iret hx hb hr hlk hP hK hD hS d_Sh_faultHere_49
        · rw [if_neg c8] at h
          refine lv_iconst (v := 5) hx hb d_Sh_faultHere_34 (by decide) ?_
          cases h
          subst hQ
          exact k_iret hx hb hr hlk hP hK hD hS d_Sh_faultHere_35
      · rw [if_neg c6] at h
        refine lv_iconst (v := 4) hx hb d_Sh_faultHere_25 (by decide) ?_
        cases h
        subst hQ
        exact k_iret hx hb hr hlk hP hK hD hS d_Sh_faultHere_26
    · rw [if_neg c4] at h
      refine lv_iconst (v := 3) hx hb d_Sh_faultHere_16 (by decide) ?_
      cases h
      subst hQ
      exact k_iret hx hb hr hlk hP hK hD hS d_Sh_faultHere_17
  · rw [if_pos c2] at h
    refine lv_iconst (v := 2) hx hb d_Sh_faultHere_7 (by decide) ?_
    cases h
    subst hQ
    exact k_iret hx hb hr hlk hP hK hD hS d_Sh_faultHere_8
theorem d_Sh_lookAt_0 : decode b_Sh_lookAt 0 = .ok (.aload_n 0, 1) := by decide +kernel
theorem d_Sh_lookAt_1 : decode b_Sh_lookAt 1 = .ok (.iload_n 1, 1) := by decide +kernel
theorem d_Sh_lookAt_2 : decode b_Sh_lookAt 2 = .ok (.putfield 59, 3) := by decide +kernel
theorem d_Sh_lookAt_5 : decode b_Sh_lookAt 5 = .ok (.aload_n 0, 1) := by decide +kernel
theorem d_Sh_lookAt_6 : decode b_Sh_lookAt 6 = .ok (.aload_n 0, 1) := by decide +kernel
theorem d_Sh_lookAt_7 : decode b_Sh_lookAt 7 = .ok (.getfield 9, 3) := by decide +kernel
theorem d_Sh_lookAt_10 : decode b_Sh_lookAt 10 = .ok (.aload_n 0, 1) := by decide +kernel
theorem d_Sh_lookAt_11 : decode b_Sh_lookAt 11 = .ok (.getfield 15, 3) := by decide +kernel
theorem d_Sh_lookAt_14 : decode b_Sh_lookAt 14 = .ok (.iload_n 1, 1) := by decide +kernel
theorem d_Sh_lookAt_15 : decode b_Sh_lookAt 15 = .ok (.invokevirtual 62, 3) := by decide +kernel
theorem d_Sh_lookAt_18 : decode b_Sh_lookAt 18 = .ok (.putfield 65, 3) := by decide +kernel
theorem d_Sh_lookAt_21 : decode b_Sh_lookAt 21 = .ok (.aload_n 0, 1) := by decide +kernel
theorem d_Sh_lookAt_22 : decode b_Sh_lookAt 22 = .ok (.aload_n 0, 1) := by decide +kernel
theorem d_Sh_lookAt_23 : decode b_Sh_lookAt 23 = .ok (.getfield 9, 3) := by decide +kernel
theorem d_Sh_lookAt_26 : decode b_Sh_lookAt 26 = .ok (.aload_n 0, 1) := by decide +kernel
theorem d_Sh_lookAt_27 : decode b_Sh_lookAt 27 = .ok (.getfield 15, 3) := by decide +kernel
theorem d_Sh_lookAt_30 : decode b_Sh_lookAt 30 = .ok (.iload_n 1, 1) := by decide +kernel
theorem d_Sh_lookAt_31 : decode b_Sh_lookAt 31 = .ok (.invokevirtual 68, 3) := by decide +kernel
theorem d_Sh_lookAt_34 : decode b_Sh_lookAt 34 = .ok (.putfield 71, 3) := by decide +kernel
theorem d_Sh_lookAt_37 : decode b_Sh_lookAt 37 = .ok (.aload_n 0, 1) := by decide +kernel
theorem d_Sh_lookAt_38 : decode b_Sh_lookAt 38 = .ok (.aload_n 0, 1) := by decide +kernel
theorem d_Sh_lookAt_39 : decode b_Sh_lookAt 39 = .ok (.getfield 9, 3) := by decide +kernel
theorem d_Sh_lookAt_42 : decode b_Sh_lookAt 42 = .ok (.aload_n 0, 1) := by decide +kernel
theorem d_Sh_lookAt_43 : decode b_Sh_lookAt 43 = .ok (.getfield 15, 3) := by decide +kernel
theorem d_Sh_lookAt_46 : decode b_Sh_lookAt 46 = .ok (.iload_n 1, 1) := by decide +kernel
theorem d_Sh_lookAt_47 : decode b_Sh_lookAt 47 = .ok (.invokevirtual 74, 3) := by decide +kernel
theorem d_Sh_lookAt_50 : decode b_Sh_lookAt 50 = .ok (.putfield 77, 3) := by decide +kernel
theorem d_Sh_lookAt_53 : decode b_Sh_lookAt 53 = .ok (.aload_n 0, 1) := by decide +kernel
theorem d_Sh_lookAt_54 : decode b_Sh_lookAt 54 = .ok (.aload_n 0, 1) := by decide +kernel
theorem d_Sh_lookAt_55 : decode b_Sh_lookAt 55 = .ok (.getfield 9, 3) := by decide +kernel
theorem d_Sh_lookAt_58 : decode b_Sh_lookAt 58 = .ok (.aload_n 0, 1) := by decide +kernel
theorem d_Sh_lookAt_59 : decode b_Sh_lookAt 59 = .ok (.getfield 15, 3) := by decide +kernel
theorem d_Sh_lookAt_62 : decode b_Sh_lookAt 62 = .ok (.iload_n 1, 1) := by decide +kernel
theorem d_Sh_lookAt_63 : decode b_Sh_lookAt 63 = .ok (.invokevirtual 80, 3) := by decide +kernel
theorem d_Sh_lookAt_66 : decode b_Sh_lookAt 66 = .ok (.putfield 83, 3) := by decide +kernel
theorem d_Sh_lookAt_69 : decode b_Sh_lookAt 69 = .ok (.return_, 1) := by decide +kernel
def r_Sh_lookAt (n : Nat) (ko : T_ko) (sh : T_sh) (a0 : Int32) : Option (T_sh) := (r_Co_numberAt n ko (sh_unit (sh_i_s sh a0)) a0).bind (fun q1 => (r_Co_aAt n ko (sh_unit (sh_number_s (sh_i_s sh a0) q1)) a0).bind (fun q2 => (r_Co_bAt n ko (sh_unit (sh_a_s (sh_number_s (sh_i_s sh a0) q1) q2)) a0).bind (fun q3 => (r_Co_cAt n ko (sh_unit (sh_b_s (sh_a_s (sh_number_s (sh_i_s sh a0) q1) q2) q3)) a0).bind (fun q4 => some ((sh_c_s (sh_b_s (sh_a_s (sh_number_s (sh_i_s sh a0) q1) q2) q3) q4))))))
def rm_Sh_lookAt : Jvm.Room := { frames := 2, cells := 0, slots := 0, locals := 46 }
set_option maxHeartbeats 4000000 in
set_option maxRecDepth 100000 in
theorem c_Sh_lookAt {l : Launch} {D : va_G} {cI cL : ClassId} {ad : Nat → Nat} {ma : T_ma} {ko : T_ko} {sh : T_sh} {lo : T_lo} {de : T_de} {wa : T_wa} {me : T_me} {ru : T_ru} {ws0 : va_W} {sz n : Nat} {a0 : Int32} {sh9 : T_sh} (hw : ws0 = (wX cI cL ad ma ko sh lo de wa me ru)) (h : r_Sh_lookAt n ko sh a0 = some sh9) : Met l y_Sh_lookAt (Cond.code y_Sh_lookAt b_Sh_lookAt 2 none :: TB) rm_Sh_lookAt (PreW D clX (tyX cI cL) ws0 [.ref (ad 10), .int a0] sz) (PstV D clX (tyX cI cL) ws0 (wX cI cL ad ma ko (sh9) lo de wa me ru) sz) 0 0 (va_A ws0 sz) := by
  refine k_met (by decide) (Nat.le_of_ble_eq_true rfl) ?_
  intro p e s m below meth c ls hx hb hr hml hts hown hlk hnm hsz hP hK hD hA hz hl
  have hP : va_P D clX (wX cI cL ad ma ko sh lo de wa me ru) s.heap := by rw [← hw]; exact hP
  have hD : va_D (va_A ws0 sz) (wX cI cL ad ma ko sh lo de wa me ru) := by rw [← hw]; exact hD
  have hS : va_S (va_A ws0 sz) s.heap s.heap [] := va_S.rf
  have hl : lv_has ls 2 [(0, .ref (ad 10)), (1, .int a0)] := hl
  generalize hQ : MQ below (PstV D clX (tyX cI cL) ws0 (wX cI cL ad ma ko (sh9) lo de wa me ru) sz) [.ref (ad 10), .int a0].toArray s 0 0 (va_A ws0 sz) = Q
  unfold r_Sh_lookAt at h
  refine lv_aload_n hx hb d_Sh_lookAt_0 rfl (lv_at hl 0 rfl) ?_
  refine lv_iload_n hx hb d_Sh_lookAt_1 rfl (lv_at hl 1 rfl) ?_
  refine wr_Sh_i hx hb hts hown hK hP hD hS lk_68 d_Sh_lookAt_2 (fun H locs hP hD hS => ?_)
  refine lv_aload_n hx hb d_Sh_lookAt_5 rfl (lv_at hl 0 rfl) ?_
  refine lv_aload_n hx hb d_Sh_lookAt_6 rfl (lv_at hl 0 rfl) ?_
  refine rd_Sh_code hx hb hts hown hK hP lk_66 d_Sh_lookAt_7 ?_
  refine lv_aload_n hx hb d_Sh_lookAt_10 rfl (lv_at hl 0 rfl) ?_
  refine rd_Sh_unit hx hb hts hown hK hP lk_67 (v := (sh_unit (sh_i_s sh a0))) rfl d_Sh_lookAt_11 ?_
  refine lv_iload_n hx hb d_Sh_lookAt_14 rfl (lv_at hl 1 rfl) ?_
  obtain ⟨q1, hq1, h⟩ := Option.bind_eq_some_iff.mp h
  refine k_I (k_runVN ⟨hx, hb, hml, hown, hts⟩ (c_Co_numberAt rfl hq1) ok_Co_numberAt is_Co_numberAt lk_363 rfl rfl ⟨by decide, by decide⟩ hP hK hD hS hA hz (ci := 1) (q0 := 1) rfl rfl ob_Co rfl hl.1 rfl (Nat.le_of_ble_eq_true rfl) d_Sh_lookAt_15 ⟨Nat.zero_le _, Nat.zero_le _⟩) hD hS hA (fun H locs hP hD hS => ?_)
  refine wr_Sh_number hx hb hts hown hK hP hD hS lk_69 d_Sh_lookAt_18 (fun H locs hP hD hS => ?_)
  refine lv_aload_n hx hb d_Sh_lookAt_21 rfl (lv_at hl 0 rfl) ?_
  refine lv_aload_n hx hb d_Sh_lookAt_22 rfl (lv_at hl 0 rfl) ?_
  refine rd_Sh_code hx hb hts hown hK hP lk_66 d_Sh_lookAt_23 ?_
  refine lv_aload_n hx hb d_Sh_lookAt_26 rfl (lv_at hl 0 rfl) ?_
  refine rd_Sh_unit hx hb hts hown hK hP lk_67 (v := (sh_unit (sh_number_s (sh_i_s sh a0) q1))) rfl d_Sh_lookAt_27 ?_
  refine lv_iload_n hx hb d_Sh_lookAt_30 rfl (lv_at hl 1 rfl) ?_
  obtain ⟨q2, hq2, h⟩ := Option.bind_eq_some_iff.mp h
  refine k_I (k_runVN ⟨hx, hb, hml, hown, hts⟩ (c_Co_aAt rfl hq2) ok_Co_aAt is_Co_aAt lk_371 rfl rfl ⟨by decide, by decide⟩ hP hK hD hS hA hz (ci := 1) (q0 := 1) rfl rfl ob_Co rfl hl.1 rfl (Nat.le_of_ble_eq_true rfl) d_Sh_lookAt_31 ⟨Nat.zero_le _, Nat.zero_le _⟩) hD hS hA (fun H locs hP hD hS => ?_)
  refine wr_Sh_a hx hb hts hown hK hP hD hS lk_70 d_Sh_lookAt_34 (fun H locs hP hD hS => ?_)
  refine lv_aload_n hx hb d_Sh_lookAt_37 rfl (lv_at hl 0 rfl) ?_
  refine lv_aload_n hx hb d_Sh_lookAt_38 rfl (lv_at hl 0 rfl) ?_
  refine rd_Sh_code hx hb hts hown hK hP lk_66 d_Sh_lookAt_39 ?_
  refine lv_aload_n hx hb d_Sh_lookAt_42 rfl (lv_at hl 0 rfl) ?_
  refine rd_Sh_unit hx hb hts hown hK hP lk_67 (v := (sh_unit (sh_a_s (sh_number_s (sh_i_s sh a0) q1) q2))) rfl d_Sh_lookAt_43 ?_
  refine lv_iload_n hx hb d_Sh_lookAt_46 rfl (lv_at hl 1 rfl) ?_
  obtain ⟨q3, hq3, h⟩ := Option.bind_eq_some_iff.mp h
  refine k_I (k_runVN ⟨hx, hb, hml, hown, hts⟩ (c_Co_bAt rfl hq3) ok_Co_bAt is_Co_bAt lk_375 rfl rfl ⟨by decide, by decide⟩ hP hK hD hS hA hz (ci := 1) (q0 := 1) rfl rfl ob_Co rfl hl.1 rfl (Nat.le_of_ble_eq_true rfl) d_Sh_lookAt_47 ⟨Nat.zero_le _, Nat.zero_le _⟩) hD hS hA (fun H locs hP hD hS => ?_)
  refine wr_Sh_b hx hb hts hown hK hP hD hS lk_71 d_Sh_lookAt_50 (fun H locs hP hD hS => ?_)
  refine lv_aload_n hx hb d_Sh_lookAt_53 rfl (lv_at hl 0 rfl) ?_
  refine lv_aload_n hx hb d_Sh_lookAt_54 rfl (lv_at hl 0 rfl) ?_
  refine rd_Sh_code hx hb hts hown hK hP lk_66 d_Sh_lookAt_55 ?_
  refine lv_aload_n hx hb d_Sh_lookAt_58 rfl (lv_at hl 0 rfl) ?_
  refine rd_Sh_unit hx hb hts hown hK hP lk_67 (v := (sh_unit (sh_b_s (sh_a_s (sh_number_s (sh_i_s sh a0) q1) q2) q3))) rfl d_Sh_lookAt_59 ?_
  refine lv_iload_n hx hb d_Sh_lookAt_62 rfl (lv_at hl 1 rfl) ?_
  obtain ⟨q4, hq4, h⟩ := Option.bind_eq_some_iff.mp h
  refine k_I (k_runVN ⟨hx, hb, hml, hown, hts⟩ (c_Co_cAt rfl hq4) ok_Co_cAt is_Co_cAt lk_379 rfl rfl ⟨by decide, by decide⟩ hP hK hD hS hA hz (ci := 1) (q0 := 1) rfl rfl ob_Co rfl hl.1 rfl (Nat.le_of_ble_eq_true rfl) d_Sh_lookAt_63 ⟨Nat.zero_le _, Nat.zero_le _⟩) hD hS hA (fun H locs hP hD hS => ?_)
  refine wr_Sh_c hx hb hts hown hK hP hD hS lk_72 d_Sh_lookAt_66 (fun H locs hP hD hS => ?_)
  cases h
  subst hQ
  exact k_vret hx hb hr hlk hP hK hD hS d_Sh_lookAt_69
theorem d_Sh_meetsEarlierUnit_0 : decode b_Sh_meetsEarlierUnit 0 = .ok (.iconst 0, 1) := by decide +kernel
theorem d_Sh_meetsEarlierUnit_1 : decode b_Sh_meetsEarlierUnit 1 = .ok (.istore_n 3, 1) := by decide +kernel
theorem d_Sh_meetsEarlierUnit_2 : decode b_Sh_meetsEarlierUnit 2 = .ok (.iload_n 3, 1) := by decide +kernel
theorem d_Sh_meetsEarlierUnit_3 : decode b_Sh_meetsEarlierUnit 3 = .ok (.aload_n 0, 1) := by decide +kernel
theorem d_Sh_meetsEarlierUnit_4 : decode b_Sh_meetsEarlierUnit 4 = .ok (.getfield 15, 3) := by decide +kernel
theorem d_Sh_meetsEarlierUnit_7 : decode b_Sh_meetsEarlierUnit 7 = .ok (.if_icmp .ge 59, 3) := by decide +kernel
theorem d_Sh_meetsEarlierUnit_10 : decode b_Sh_meetsEarlierUnit 10 = .ok (.aload_n 0, 1) := by decide +kernel
theorem d_Sh_meetsEarlierUnit_11 : decode b_Sh_meetsEarlierUnit 11 = .ok (.getfield 9, 3) := by decide +kernel
theorem d_Sh_meetsEarlierUnit_14 : decode b_Sh_meetsEarlierUnit 14 = .ok (.iload_n 3, 1) := by decide +kernel
theorem d_Sh_meetsEarlierUnit_15 : decode b_Sh_meetsEarlierUnit 15 = .ok (.invokevirtual 37, 3) := by decide +kernel
theorem d_Sh_meetsEarlierUnit_18 : decode b_Sh_meetsEarlierUnit 18 = .ok (.istore 4, 2) := by decide +kernel
theorem d_Sh_meetsEarlierUnit_20 : decode b_Sh_meetsEarlierUnit 20 = .ok (.iload_n 1, 1) := by decide +kernel
theorem d_Sh_meetsEarlierUnit_21 : decode b_Sh_meetsEarlierUnit 21 = .ok (.iload 4, 2) := by decide +kernel
theorem d_Sh_meetsEarlierUnit_23 : decode b_Sh_meetsEarlierUnit 23 = .ok (.invokestatic 50, 3) := by decide +kernel
theorem d_Sh_meetsEarlierUnit_26 : decode b_Sh_meetsEarlierUnit 26 = .ok (.istore 5, 2) := by decide +kernel
theorem d_Sh_meetsEarlierUnit_28 : decode b_Sh_meetsEarlierUnit 28 = .ok (.iload_n 2, 1) := by decide +kernel
theorem d_Sh_meetsEarlierUnit_29 : decode b_Sh_meetsEarlierUnit 29 = .ok (.iload 4, 2) := by decide +kernel
theorem d_Sh_meetsEarlierUnit_31 : decode b_Sh_meetsEarlierUnit 31 = .ok (.aload_n 0, 1) := by decide +kernel
theorem d_Sh_meetsEarlierUnit_32 : decode b_Sh_meetsEarlierUnit 32 = .ok (.getfield 9, 3) := by decide +kernel
theorem d_Sh_meetsEarlierUnit_35 : decode b_Sh_meetsEarlierUnit 35 = .ok (.iload_n 3, 1) := by decide +kernel
theorem d_Sh_meetsEarlierUnit_36 : decode b_Sh_meetsEarlierUnit 36 = .ok (.invokevirtual 40, 3) := by decide +kernel
theorem d_Sh_meetsEarlierUnit_39 : decode b_Sh_meetsEarlierUnit 39 = .ok (.iadd, 1) := by decide +kernel
theorem d_Sh_meetsEarlierUnit_40 : decode b_Sh_meetsEarlierUnit 40 = .ok (.invokestatic 56, 3) := by decide +kernel
theorem d_Sh_meetsEarlierUnit_43 : decode b_Sh_meetsEarlierUnit 43 = .ok (.istore 6, 2) := by decide +kernel
theorem d_Sh_meetsEarlierUnit_45 : decode b_Sh_meetsEarlierUnit 45 = .ok (.iload 4, 2) := by decide +kernel
theorem d_Sh_meetsEarlierUnit_47 : decode b_Sh_meetsEarlierUnit 47 = .ok (.iconst (-1), 1) := by decide +kernel
theorem d_Sh_meetsEarlierUnit_48 : decode b_Sh_meetsEarlierUnit 48 = .ok (.if_icmp .eq 12, 3) := by decide +kernel
theorem d_Sh_meetsEarlierUnit_51 : decode b_Sh_meetsEarlierUnit 51 = .ok (.iload 5, 2) := by decide +kernel
theorem d_Sh_meetsEarlierUnit_53 : decode b_Sh_meetsEarlierUnit 53 = .ok (.iload 6, 2) := by decide +kernel
theorem d_Sh_meetsEarlierUnit_55 : decode b_Sh_meetsEarlierUnit 55 = .ok (.if_icmp .ge 5, 3) := by decide +kernel
theorem d_Sh_meetsEarlierUnit_58 : decode b_Sh_meetsEarlierUnit 58 = .ok (.iconst 1, 1) := by decide +kernel
theorem d_Sh_meetsEarlierUnit_59 : decode b_Sh_meetsEarlierUnit 59 = .ok (.ireturn, 1) := by decide +kernel
theorem d_Sh_meetsEarlierUnit_60 : decode b_Sh_meetsEarlierUnit 60 = .ok (.iinc 3 1, 3) := by decide +kernel
theorem d_Sh_meetsEarlierUnit_63 : decode b_Sh_meetsEarlierUnit 63 = .ok (.goto (-61), 3) := by decide +kernel
theorem d_Sh_meetsEarlierUnit_66 : decode b_Sh_meetsEarlierUnit 66 = .ok (.iconst 0, 1) := by decide +kernel
theorem d_Sh_meetsEarlierUnit_67 : decode b_Sh_meetsEarlierUnit 67 = .ok (.ireturn, 1) := by decide +kernel
def r_Sh_meetsEarlierUnit_l2 (n : Nat) (ko : T_ko) (sh : T_sh)  : Nat → Int32 → Int32 → Int32 → Option (Int32)
  | 0, _, _, _ => none
  | f + 1, x1, x2, x3 => if (sh_unit sh) ≤ x3 then some ((0 : Int32)) else (r_Co_placeOf n ko x3).bind (fun q2 => (r_Co_frameOf n ko x3).bind (fun q3 => if q2 = (-1 : Int32) then (r_Sh_meetsEarlierUnit_l2 n ko sh f) x1 x2 (x3 + 1) else if (if (q2 + q3) < x2 then (q2 + q3) else x2) ≤ (if x1 < q2 then q2 else x1) then (r_Sh_meetsEarlierUnit_l2 n ko sh f) x1 x2 (x3 + 1) else some ((1 : Int32))))
def r_Sh_meetsEarlierUnit (n : Nat) (ko : T_ko) (sh : T_sh) (a0 : Int32) (a1 : Int32) : Option (Int32) := r_Sh_meetsEarlierUnit_l2 n ko sh n a0 a1 (0 : Int32)
def rm_Sh_meetsEarlierUnit : Jvm.Room := { frames := 2, cells := 0, slots := 0, locals := 42 }
set_option maxHeartbeats 4000000 in
set_option maxRecDepth 100000 in
theorem c_Sh_meetsEarlierUnit {l : Launch} {D : va_G} {cI cL : ClassId} {ad : Nat → Nat} {ma : T_ma} {ko : T_ko} {sh : T_sh} {lo : T_lo} {de : T_de} {wa : T_wa} {me : T_me} {ru : T_ru} {ws0 : va_W} {sz n : Nat} {a0 : Int32} {a1 : Int32} {r9 : Int32} (hw : ws0 = (wX cI cL ad ma ko sh lo de wa me ru)) (h : r_Sh_meetsEarlierUnit n ko sh a0 a1 = some r9) : Met l y_Sh_meetsEarlierUnit (Cond.code y_Sh_meetsEarlierUnit b_Sh_meetsEarlierUnit 7 (some .boolean) :: TB) rm_Sh_meetsEarlierUnit (PreW D clX (tyX cI cL) ws0 [.ref (ad 10), .int a0, .int a1] sz) (PstI D clX (tyX cI cL) ws0 (wX cI cL ad ma ko sh lo de wa me ru) sz r9) 0 0 (va_A ws0 sz) := by
  refine k_met (by decide) (Nat.le_of_ble_eq_true rfl) ?_
  intro p e s m below meth c ls hx hb hr hml hts hown hlk hnm hsz hP hK hD hA hz hl
  have hP : va_P D clX (wX cI cL ad ma ko sh lo de wa me ru) s.heap := by rw [← hw]; exact hP
  have hD : va_D (va_A ws0 sz) (wX cI cL ad ma ko sh lo de wa me ru) := by rw [← hw]; exact hD
  have hS : va_S (va_A ws0 sz) s.heap s.heap [] := va_S.rf
  have hl : lv_has ls 7 [(0, .ref (ad 10)), (1, .int a0), (2, .int a1)] := hl
  generalize hQ : MQ below (PstI D clX (tyX cI cL) ws0 (wX cI cL ad ma ko sh lo de wa me ru) sz r9) [.ref (ad 10), .int a0, .int a1].toArray s 0 0 (va_A ws0 sz) = Q
  have L2 : ∀ (f2 : Nat), ∀ (x1 : Int32) (x2 : Int32) (x3 : Int32) (H : Heap) (locs : List Loc) (ls : Array Slot), r_Sh_meetsEarlierUnit_l2 n ko sh f2 x1 x2 x3 = some r9 → va_P D clX (wX cI cL ad ma ko sh lo de wa me ru) H → va_D (va_A ws0 sz) (wX cI cL ad ma ko sh lo de wa me ru) → va_S (va_A ws0 sz) s.heap H locs → lv_has ls 7 [(0, .ref (ad 10)), (1, .int x1), (2, .int x2), (3, .int x3)] → W p l e rm_Sh_meetsEarlierUnit s m [.ref (ad 10), .int a0, .int a1].toArray below meth c H locs 0 0 Q (F0 m 2 ls []) := by
    intro f2
    induction f2 with
    | zero =>
      intro x1 x2 x3 H locs ls h hP hD hS hl
      exact absurd h (by intro h; cases h)
    | succ f2 ih2 =>
      intro x1 x2 x3 H locs ls h hP hD hS hl
      rw [r_Sh_meetsEarlierUnit_l2] at h
      refine lv_iload_n hx hb d_Sh_meetsEarlierUnit_2 rfl (lv_at hl 3 rfl) ?_
      refine lv_aload_n hx hb d_Sh_meetsEarlierUnit_3 rfl (lv_at hl 0 rfl) ?_
      refine rd_Sh_unit hx hb hts hown hK hP lk_67 (v := (sh_unit sh)) rfl d_Sh_meetsEarlierUnit_4 ?_
      refine lv_icmp_ge (tgt := 66) hx hb d_Sh_meetsEarlierUnit_7 (by decide) (fun c1 => ?_) (fun c1 => ?_)
      · rw [if_pos c1] at h
        refine lv_iconst (v := 0) hx hb d_Sh_meetsEarlierUnit_66 (by decide) ?_
        cases h
        subst hQ
        exact k_zret hx hb hr hlk (Or.inl rfl) hP hK hD hS d_Sh_meetsEarlierUnit_67
      · rw [if_neg c1] at h
        refine lv_aload_n hx hb d_Sh_meetsEarlierUnit_10 rfl (lv_at hl 0 rfl) ?_
        refine rd_Sh_code hx hb hts hown hK hP lk_66 d_Sh_meetsEarlierUnit_11 ?_
        refine lv_iload_n hx hb d_Sh_meetsEarlierUnit_14 rfl (lv_at hl 3 rfl) ?_
        obtain ⟨q2, hq2, h⟩ := Option.bind_eq_some_iff.mp h
        refine k_I (k_runVN ⟨hx, hb, hml, hown, hts⟩ (c_Co_placeOf rfl hq2) ok_Co_placeOf is_Co_placeOf lk_332 rfl rfl ⟨by decide, by decide⟩ hP hK hD hS hA hz (ci := 1) (q0 := 1) rfl rfl ob_Co rfl hl.1 rfl (Nat.le_of_ble_eq_true rfl) d_Sh_meetsEarlierUnit_15 ⟨Nat.zero_le _, Nat.zero_le _⟩) hD hS hA (fun H locs hP hD hS => ?_)
        refine lv_istore (lv' := [(4, .int q2), (0, .ref (ad 10)), (1, .int x1), (2, .int x2), (3, .int x3)]) hx hb d_Sh_meetsEarlierUnit_18 hl (by decide) rfl (fun ls hl => ?_)
        refine lv_iload_n hx hb d_Sh_meetsEarlierUnit_20 rfl (lv_at hl 2 rfl) ?_
        refine lv_iload hx hb d_Sh_meetsEarlierUnit_21 (lv_at hl 0 rfl) ?_
        refine va_mmax hx hb (by rw [hml]; exact hl.1.symm) hown (hts _ lk_349) (hts _ is_Ma_maxI) (hts _ ok_Ma_maxI.2.1) (hts _ ok_Ma_maxI.1) (by decide) (Nat.le_of_ble_eq_true rfl) (Nat.zero_le _) (Nat.zero_le _) d_Sh_meetsEarlierUnit_23 ?_
        refine lv_istore (lv' := [(5, .int (if x1 < q2 then q2 else x1)), (4, .int q2), (0, .ref (ad 10)), (1, .int x1), (2, .int x2), (3, .int x3)]) hx hb d_Sh_meetsEarlierUnit_26 hl (by decide) rfl (fun ls hl => ?_)
        refine lv_iload_n hx hb d_Sh_meetsEarlierUnit_28 rfl (lv_at hl 4 rfl) ?_
        refine lv_iload hx hb d_Sh_meetsEarlierUnit_29 (lv_at hl 1 rfl) ?_
        refine lv_aload_n hx hb d_Sh_meetsEarlierUnit_31 rfl (lv_at hl 2 rfl) ?_
        refine rd_Sh_code hx hb hts hown hK hP lk_66 d_Sh_meetsEarlierUnit_32 ?_
        refine lv_iload_n hx hb d_Sh_meetsEarlierUnit_35 rfl (lv_at hl 5 rfl) ?_
        obtain ⟨q3, hq3, h⟩ := Option.bind_eq_some_iff.mp h
        refine k_I (k_runVN ⟨hx, hb, hml, hown, hts⟩ (c_Co_frameOf rfl hq3) ok_Co_frameOf is_Co_frameOf lk_340 rfl rfl ⟨by decide, by decide⟩ hP hK hD hS hA hz (ci := 1) (q0 := 1) rfl rfl ob_Co rfl hl.1 rfl (Nat.le_of_ble_eq_true rfl) d_Sh_meetsEarlierUnit_36 ⟨Nat.zero_le _, Nat.zero_le _⟩) hD hS hA (fun H locs hP hD hS => ?_)
        refine lv_iadd hx hb d_Sh_meetsEarlierUnit_39 ?_
        refine va_mmin hx hb (by rw [hml]; exact hl.1.symm) hown (hts _ lk_352) (hts _ is_Ma_minI) (hts _ ok_Ma_minI.2.1) (hts _ ok_Ma_minI.1) (by decide) (Nat.le_of_ble_eq_true rfl) (Nat.zero_le _) (Nat.zero_le _) d_Sh_meetsEarlierUnit_40 ?_
        refine lv_istore (lv' := [(6, .int (if (q2 + q3) < x2 then (q2 + q3) else x2)), (5, .int (if x1 < q2 then q2 else x1)), (4, .int q2), (0, .ref (ad 10)), (1, .int x1), (2, .int x2), (3, .int x3)]) hx hb d_Sh_meetsEarlierUnit_43 hl (by decide) rfl (fun ls hl => ?_)
        refine lv_iload hx hb d_Sh_meetsEarlierUnit_45 (lv_at hl 2 rfl) ?_
        refine lv_iconst (v := -1) hx hb d_Sh_meetsEarlierUnit_47 (by decide) ?_
        refine lv_icmp_eq (tgt := 60) hx hb d_Sh_meetsEarlierUnit_48 (by decide) (fun c4 => ?_) (fun c4 => ?_)
        · rw [if_pos c4] at h
          refine lv_iinc (v := (x3 + 1)) (lv' := [(3, .int (x3 + 1)), (6, .int (if (q2 + q3) < x2 then (q2 + q3) else x2)), (5, .int (if x1 < q2 then q2 else x1)), (4, .int q2), (0, .ref (ad 10)), (1, .int x1), (2, .int x2)]) hx hb d_Sh_meetsEarlierUnit_60 hl (k := 6) rfl rfl (by decide) rfl (fun ls hl => ?_)
          refine lv_goto (tgt := 2) hx hb d_Sh_meetsEarlierUnit_63 (by decide) ?_
          exact ih2 _ _ _ _ _ _ h hP hD hS (lv_sub hl [4, 5, 6, 0] rfl)
        · rw [if_neg c4] at h
          refine lv_iload hx hb d_Sh_meetsEarlierUnit_51 (lv_at hl 1 rfl) ?_
          refine lv_iload hx hb d_Sh_meetsEarlierUnit_53 (lv_at hl 0 rfl) ?_
          refine lv_icmp_ge (tgt := 60) hx hb d_Sh_meetsEarlierUnit_55 (by decide) (fun c5 => ?_) (fun c5 => ?_)
          · rw [if_pos c5] at h
            refine lv_iinc (v := (x3 + 1)) (lv' := [(3, .int (x3 + 1)), (6, .int (if (q2 + q3) < x2 then (q2 + q3) else x2)), (5, .int (if x1 < q2 then q2 else x1)), (4, .int q2), (0, .ref (ad 10)), (1, .int x1), (2, .int x2)]) hx hb d_Sh_meetsEarlierUnit_60 hl (k := 6) rfl rfl (by decide) rfl (fun ls hl => ?_)
            refine lv_goto (tgt := 2) hx hb d_Sh_meetsEarlierUnit_63 (by decide) ?_
            exact ih2 _ _ _ _ _ _ h hP hD hS (lv_sub hl [4, 5, 6, 0] rfl)
          · rw [if_neg c5] at h
            refine lv_iconst (v := 1) hx hb d_Sh_meetsEarlierUnit_58 (by decide) ?_
            cases h
            subst hQ
            exact k_zret hx hb hr hlk (Or.inr rfl) hP hK hD hS d_Sh_meetsEarlierUnit_59
  unfold r_Sh_meetsEarlierUnit at h
  refine lv_iconst (v := 0) hx hb d_Sh_meetsEarlierUnit_0 (by decide) ?_
  refine lv_istore_n (lv' := [(3, .int (0 : Int32)), (0, .ref (ad 10)), (1, .int a0), (2, .int a1)]) hx hb d_Sh_meetsEarlierUnit_1 rfl hl (by decide) rfl (fun ls hl => ?_)
  exact L2 n _ _ _ _ _ _ h hP hD hS (lv_sub hl [1, 2, 3, 0] rfl)
theorem d_Sh_isPlacedWrong_0 : decode b_Sh_isPlacedWrong 0 = .ok (.aload_n 0, 1) := by decide +kernel
theorem d_Sh_isPlacedWrong_1 : decode b_Sh_isPlacedWrong 1 = .ok (.getfield 9, 3) := by decide +kernel
theorem d_Sh_isPlacedWrong_4 : decode b_Sh_isPlacedWrong 4 = .ok (.aload_n 0, 1) := by decide +kernel
theorem d_Sh_isPlacedWrong_5 : decode b_Sh_isPlacedWrong 5 = .ok (.getfield 15, 3) := by decide +kernel
theorem d_Sh_isPlacedWrong_8 : decode b_Sh_isPlacedWrong 8 = .ok (.invokevirtual 37, 3) := by decide +kernel
theorem d_Sh_isPlacedWrong_11 : decode b_Sh_isPlacedWrong 11 = .ok (.istore_n 2, 1) := by decide +kernel
theorem d_Sh_isPlacedWrong_12 : decode b_Sh_isPlacedWrong 12 = .ok (.aload_n 0, 1) := by decide +kernel
theorem d_Sh_isPlacedWrong_13 : decode b_Sh_isPlacedWrong 13 = .ok (.getfield 9, 3) := by decide +kernel
theorem d_Sh_isPlacedWrong_16 : decode b_Sh_isPlacedWrong 16 = .ok (.aload_n 0, 1) := by decide +kernel
theorem d_Sh_isPlacedWrong_17 : decode b_Sh_isPlacedWrong 17 = .ok (.getfield 15, 3) := by decide +kernel
theorem d_Sh_isPlacedWrong_20 : decode b_Sh_isPlacedWrong 20 = .ok (.invokevirtual 40, 3) := by decide +kernel
theorem d_Sh_isPlacedWrong_23 : decode b_Sh_isPlacedWrong 23 = .ok (.istore_n 3, 1) := by decide +kernel
theorem d_Sh_isPlacedWrong_24 : decode b_Sh_isPlacedWrong 24 = .ok (.aload_n 0, 1) := by decide +kernel
theorem d_Sh_isPlacedWrong_25 : decode b_Sh_isPlacedWrong 25 = .ok (.getfield 15, 3) := by decide +kernel
theorem d_Sh_isPlacedWrong_28 : decode b_Sh_isPlacedWrong 28 = .ok (.aload_n 0, 1) := by decide +kernel
theorem d_Sh_isPlacedWrong_29 : decode b_Sh_isPlacedWrong 29 = .ok (.getfield 9, 3) := by decide +kernel
theorem d_Sh_isPlacedWrong_32 : decode b_Sh_isPlacedWrong 32 = .ok (.invokevirtual 43, 3) := by decide +kernel
theorem d_Sh_isPlacedWrong_35 : decode b_Sh_isPlacedWrong 35 = .ok (.iconst 1, 1) := by decide +kernel
theorem d_Sh_isPlacedWrong_36 : decode b_Sh_isPlacedWrong 36 = .ok (.isub, 1) := by decide +kernel
theorem d_Sh_isPlacedWrong_37 : decode b_Sh_isPlacedWrong 37 = .ok (.if_icmp .ne 9, 3) := by decide +kernel
theorem d_Sh_isPlacedWrong_40 : decode b_Sh_isPlacedWrong 40 = .ok (.iload_n 2, 1) := by decide +kernel
theorem d_Sh_isPlacedWrong_41 : decode b_Sh_isPlacedWrong 41 = .ok (.ifCond .eq 5, 3) := by decide +kernel
theorem d_Sh_isPlacedWrong_44 : decode b_Sh_isPlacedWrong 44 = .ok (.iconst 1, 1) := by decide +kernel
theorem d_Sh_isPlacedWrong_45 : decode b_Sh_isPlacedWrong 45 = .ok (.ireturn, 1) := by decide +kernel
theorem d_Sh_isPlacedWrong_46 : decode b_Sh_isPlacedWrong 46 = .ok (.iload_n 2, 1) := by decide +kernel
theorem d_Sh_isPlacedWrong_47 : decode b_Sh_isPlacedWrong 47 = .ok (.iconst (-1), 1) := by decide +kernel
theorem d_Sh_isPlacedWrong_48 : decode b_Sh_isPlacedWrong 48 = .ok (.if_icmp .eq 7, 3) := by decide +kernel
theorem d_Sh_isPlacedWrong_51 : decode b_Sh_isPlacedWrong 51 = .ok (.iload_n 3, 1) := by decide +kernel
theorem d_Sh_isPlacedWrong_52 : decode b_Sh_isPlacedWrong 52 = .ok (.ifCond .ne 5, 3) := by decide +kernel
theorem d_Sh_isPlacedWrong_55 : decode b_Sh_isPlacedWrong 55 = .ok (.iconst 0, 1) := by decide +kernel
theorem d_Sh_isPlacedWrong_56 : decode b_Sh_isPlacedWrong 56 = .ok (.ireturn, 1) := by decide +kernel
theorem d_Sh_isPlacedWrong_57 : decode b_Sh_isPlacedWrong 57 = .ok (.iload_n 2, 1) := by decide +kernel
theorem d_Sh_isPlacedWrong_58 : decode b_Sh_isPlacedWrong 58 = .ok (.iload_n 3, 1) := by decide +kernel
theorem d_Sh_isPlacedWrong_59 : decode b_Sh_isPlacedWrong 59 = .ok (.iadd, 1) := by decide +kernel
theorem d_Sh_isPlacedWrong_60 : decode b_Sh_isPlacedWrong 60 = .ok (.iload_n 1, 1) := by decide +kernel
theorem d_Sh_isPlacedWrong_61 : decode b_Sh_isPlacedWrong 61 = .ok (.if_icmp .gt 14, 3) := by decide +kernel
theorem d_Sh_isPlacedWrong_64 : decode b_Sh_isPlacedWrong 64 = .ok (.aload_n 0, 1) := by decide +kernel
theorem d_Sh_isPlacedWrong_65 : decode b_Sh_isPlacedWrong 65 = .ok (.iload_n 2, 1) := by decide +kernel
theorem d_Sh_isPlacedWrong_66 : decode b_Sh_isPlacedWrong 66 = .ok (.iload_n 2, 1) := by decide +kernel
theorem d_Sh_isPlacedWrong_67 : decode b_Sh_isPlacedWrong 67 = .ok (.iload_n 3, 1) := by decide +kernel
theorem d_Sh_isPlacedWrong_68 : decode b_Sh_isPlacedWrong 68 = .ok (.iadd, 1) := by decide +kernel
theorem d_Sh_isPlacedWrong_69 : decode b_Sh_isPlacedWrong 69 = .ok (.invokevirtual 46, 3) := by decide +kernel
theorem d_Sh_isPlacedWrong_72 : decode b_Sh_isPlacedWrong 72 = .ok (.ifCond .eq 7, 3) := by decide +kernel
theorem d_Sh_isPlacedWrong_75 : decode b_Sh_isPlacedWrong 75 = .ok (.iconst 1, 1) := by decide +kernel
theorem d_Sh_isPlacedWrong_76 : decode b_Sh_isPlacedWrong 76 = .ok (.goto 4, 3) := by decide +kernel
theorem d_Sh_isPlacedWrong_79 : decode b_Sh_isPlacedWrong 79 = .ok (.iconst 0, 1) := by decide +kernel
theorem d_Sh_isPlacedWrong_80 : decode b_Sh_isPlacedWrong 80 = .ok (.ireturn, 1) := by decide +kernel
def r_Sh_isPlacedWrong_j46 (n : Nat) (ko : T_ko) (sh : T_sh)  (x1 : Int32) (x2 : Int32) (x3 : Int32) : Option (Int32) := if x2 = (-1 : Int32) then some ((0 : Int32)) else if x3 = 0 then some ((0 : Int32)) else if x1 < (x2 + x3) then some ((1 : Int32)) else (r_Sh_meetsEarlierUnit n ko sh x2 (x2 + x3)).bind (fun q4 => if q4 = 0 then some ((0 : Int32)) else some ((1 : Int32)))
def r_Sh_isPlacedWrong (n : Nat) (ko : T_ko) (sh : T_sh) (a0 : Int32) : Option (Int32) := (r_Co_placeOf n ko (sh_unit sh)).bind (fun q6 => (r_Co_frameOf n ko (sh_unit sh)).bind (fun q7 => (r_Co_unitCount n ko).bind (fun q8 => if (sh_unit sh) = (q8 - (1 : Int32)) then if q6 = 0 then r_Sh_isPlacedWrong_j46 n ko sh a0 q6 q7 else some ((1 : Int32)) else r_Sh_isPlacedWrong_j46 n ko sh a0 q6 q7)))
def rm_Sh_isPlacedWrong : Jvm.Room := { frames := 3, cells := 0, slots := 0, locals := 68 }
set_option maxHeartbeats 4000000 in
set_option maxRecDepth 100000 in
theorem c_Sh_isPlacedWrong {l : Launch} {D : va_G} {cI cL : ClassId} {ad : Nat → Nat} {ma : T_ma} {ko : T_ko} {sh : T_sh} {lo : T_lo} {de : T_de} {wa : T_wa} {me : T_me} {ru : T_ru} {ws0 : va_W} {sz n : Nat} {a0 : Int32} {r9 : Int32} (hw : ws0 = (wX cI cL ad ma ko sh lo de wa me ru)) (h : r_Sh_isPlacedWrong n ko sh a0 = some r9) : Met l y_Sh_isPlacedWrong (Cond.code y_Sh_isPlacedWrong b_Sh_isPlacedWrong 4 (some .boolean) :: TB) rm_Sh_isPlacedWrong (PreW D clX (tyX cI cL) ws0 [.ref (ad 10), .int a0] sz) (PstI D clX (tyX cI cL) ws0 (wX cI cL ad ma ko sh lo de wa me ru) sz r9) 0 0 (va_A ws0 sz) := by
  refine k_met (by decide) (Nat.le_of_ble_eq_true rfl) ?_
  intro p e s m below meth c ls hx hb hr hml hts hown hlk hnm hsz hP hK hD hA hz hl
  have hP : va_P D clX (wX cI cL ad ma ko sh lo de wa me ru) s.heap := by rw [← hw]; exact hP
  have hD : va_D (va_A ws0 sz) (wX cI cL ad ma ko sh lo de wa me ru) := by rw [← hw]; exact hD
  have hS : va_S (va_A ws0 sz) s.heap s.heap [] := va_S.rf
  have hl : lv_has ls 4 [(0, .ref (ad 10)), (1, .int a0)] := hl
  generalize hQ : MQ below (PstI D clX (tyX cI cL) ws0 (wX cI cL ad ma ko sh lo de wa me ru) sz r9) [.ref (ad 10), .int a0].toArray s 0 0 (va_A ws0 sz) = Q
  have J46 : ∀ (x1 : Int32) (x2 : Int32) (x3 : Int32) (H : Heap) (locs : List Loc) (ls : Array Slot), r_Sh_isPlacedWrong_j46 n ko sh x1 x2 x3 = some r9 → va_P D clX (wX cI cL ad ma ko sh lo de wa me ru) H → va_D (va_A ws0 sz) (wX cI cL ad ma ko sh lo de wa me ru) → va_S (va_A ws0 sz) s.heap H locs → lv_has ls 4 [(0, .ref (ad 10)), (1, .int x1), (2, .int x2), (3, .int x3)] → W p l e rm_Sh_isPlacedWrong s m [.ref (ad 10), .int a0].toArray below meth c H locs 0 0 Q (F0 m 46 ls []) := by
    intro x1 x2 x3 H locs ls h hP hD hS hl
    unfold r_Sh_isPlacedWrong_j46 at h
    refine lv_iload_n hx hb d_Sh_isPlacedWrong_46 rfl (lv_at hl 2 rfl) ?_
    refine lv_iconst (v := -1) hx hb d_Sh_isPlacedWrong_47 (by decide) ?_
    refine lv_icmp_eq (tgt := 55) hx hb d_Sh_isPlacedWrong_48 (by decide) (fun c1 => ?_) (fun c1 => ?_)
    · rw [if_pos c1] at h
      refine lv_iconst (v := 0) hx hb d_Sh_isPlacedWrong_55 (by decide) ?_
      cases h
      subst hQ
      exact k_zret hx hb hr hlk (Or.inl rfl) hP hK hD hS d_Sh_isPlacedWrong_56
    · rw [if_neg c1] at h
      refine lv_iload_n hx hb d_Sh_isPlacedWrong_51 rfl (lv_at hl 3 rfl) ?_
      refine lv_if_ne (tgt := 57) hx hb d_Sh_isPlacedWrong_52 (by decide) (fun c2 => ?_) (fun c2 => ?_)
      · rw [if_neg c2] at h
        refine lv_iload_n hx hb d_Sh_isPlacedWrong_57 rfl (lv_at hl 2 rfl) ?_
        refine lv_iload_n hx hb d_Sh_isPlacedWrong_58 rfl (lv_at hl 3 rfl) ?_
        refine lv_iadd hx hb d_Sh_isPlacedWrong_59 ?_
        refine lv_iload_n hx hb d_Sh_isPlacedWrong_60 rfl (lv_at hl 1 rfl) ?_
        refine lv_icmp_gt (tgt := 75) hx hb d_Sh_isPlacedWrong_61 (by decide) (fun c3 => ?_) (fun c3 => ?_)
        · rw [if_pos c3] at h
          refine lv_iconst (v := 1) hx hb d_Sh_isPlacedWrong_75 (by decide) ?_
          refine lv_goto (tgt := 80) hx hb d_Sh_isPlacedWrong_76 (by decide) ?_
          cases h
          subst hQ
          exact k_zret hx hb hr hlk (Or.inr rfl) hP hK hD hS d_Sh_isPlacedWrong_80
        · rw [if_neg c3] at h
          refine lv_aload_n hx hb d_Sh_isPlacedWrong_64 rfl (lv_at hl 0 rfl) ?_
          refine lv_iload_n hx hb d_Sh_isPlacedWrong_65 rfl (lv_at hl 2 rfl) ?_
          refine lv_iload_n hx hb d_Sh_isPlacedWrong_66 rfl (lv_at hl 2 rfl) ?_
          refine lv_iload_n hx hb d_Sh_isPlacedWrong_67 rfl (lv_at hl 3 rfl) ?_
          refine lv_iadd hx hb d_Sh_isPlacedWrong_68 ?_
          obtain ⟨q4, hq4, h⟩ := Option.bind_eq_some_iff.mp h
          refine k_I (k_runV ⟨hx, hb, hml, hown, hts⟩ (c_Sh_meetsEarlierUnit rfl hq4) ok_Sh_meetsEarlierUnit is_Sh_meetsEarlierUnit lk_345 rfl rfl ⟨by decide, by decide⟩ hP hK hD hS hA hz (ci := 2) (q0 := 10) rfl rfl ob_Sh rfl hl.1 rfl (Nat.le_of_ble_eq_true rfl) d_Sh_isPlacedWrong_69 ⟨Nat.zero_le _, Nat.zero_le _⟩) hD hS hA (fun H locs hP hD hS => ?_)
          refine lv_if_eq (tgt := 79) hx hb d_Sh_isPlacedWrong_72 (by decide) (fun c5 => ?_) (fun c5 => ?_)
          · rw [if_pos c5] at h
            refine lv_iconst (v := 0) hx hb d_Sh_isPlacedWrong_79 (by decide) ?_
            cases h
            subst hQ
            exact k_zret hx hb hr hlk (Or.inl rfl) hP hK hD hS d_Sh_isPlacedWrong_80
          · rw [if_neg c5] at h
            refine lv_iconst (v := 1) hx hb d_Sh_isPlacedWrong_75 (by decide) ?_
            refine lv_goto (tgt := 80) hx hb d_Sh_isPlacedWrong_76 (by decide) ?_
            cases h
            subst hQ
            exact k_zret hx hb hr hlk (Or.inr rfl) hP hK hD hS d_Sh_isPlacedWrong_80
      · rw [if_pos c2] at h
        refine lv_iconst (v := 0) hx hb d_Sh_isPlacedWrong_55 (by decide) ?_
        cases h
        subst hQ
        exact k_zret hx hb hr hlk (Or.inl rfl) hP hK hD hS d_Sh_isPlacedWrong_56
  unfold r_Sh_isPlacedWrong at h
  refine lv_aload_n hx hb d_Sh_isPlacedWrong_0 rfl (lv_at hl 0 rfl) ?_
  refine rd_Sh_code hx hb hts hown hK hP lk_66 d_Sh_isPlacedWrong_1 ?_
  refine lv_aload_n hx hb d_Sh_isPlacedWrong_4 rfl (lv_at hl 0 rfl) ?_
  refine rd_Sh_unit hx hb hts hown hK hP lk_67 (v := (sh_unit sh)) rfl d_Sh_isPlacedWrong_5 ?_
  obtain ⟨q6, hq6, h⟩ := Option.bind_eq_some_iff.mp h
  refine k_I (k_runVN ⟨hx, hb, hml, hown, hts⟩ (c_Co_placeOf rfl hq6) ok_Co_placeOf is_Co_placeOf lk_332 rfl rfl ⟨by decide, by decide⟩ hP hK hD hS hA hz (ci := 1) (q0 := 1) rfl rfl ob_Co rfl hl.1 rfl (Nat.le_of_ble_eq_true rfl) d_Sh_isPlacedWrong_8 ⟨Nat.zero_le _, Nat.zero_le _⟩) hD hS hA (fun H locs hP hD hS => ?_)
  refine lv_istore_n (lv' := [(2, .int q6), (0, .ref (ad 10)), (1, .int a0)]) hx hb d_Sh_isPlacedWrong_11 rfl hl (by decide) rfl (fun ls hl => ?_)
  refine lv_aload_n hx hb d_Sh_isPlacedWrong_12 rfl (lv_at hl 1 rfl) ?_
  refine rd_Sh_code hx hb hts hown hK hP lk_66 d_Sh_isPlacedWrong_13 ?_
  refine lv_aload_n hx hb d_Sh_isPlacedWrong_16 rfl (lv_at hl 1 rfl) ?_
  refine rd_Sh_unit hx hb hts hown hK hP lk_67 (v := (sh_unit sh)) rfl d_Sh_isPlacedWrong_17 ?_
  obtain ⟨q7, hq7, h⟩ := Option.bind_eq_some_iff.mp h
  refine k_I (k_runVN ⟨hx, hb, hml, hown, hts⟩ (c_Co_frameOf rfl hq7) ok_Co_frameOf is_Co_frameOf lk_340 rfl rfl ⟨by decide, by decide⟩ hP hK hD hS hA hz (ci := 1) (q0 := 1) rfl rfl ob_Co rfl hl.1 rfl (Nat.le_of_ble_eq_true rfl) d_Sh_isPlacedWrong_20 ⟨Nat.zero_le _, Nat.zero_le _⟩) hD hS hA (fun H locs hP hD hS => ?_)
  refine lv_istore_n (lv' := [(3, .int q7), (2, .int q6), (0, .ref (ad 10)), (1, .int a0)]) hx hb d_Sh_isPlacedWrong_23 rfl hl (by decide) rfl (fun ls hl => ?_)
  refine lv_aload_n hx hb d_Sh_isPlacedWrong_24 rfl (lv_at hl 2 rfl) ?_
  refine rd_Sh_unit hx hb hts hown hK hP lk_67 (v := (sh_unit sh)) rfl d_Sh_isPlacedWrong_25 ?_
  refine lv_aload_n hx hb d_Sh_isPlacedWrong_28 rfl (lv_at hl 2 rfl) ?_
  refine rd_Sh_code hx hb hts hown hK hP lk_66 d_Sh_isPlacedWrong_29 ?_
  obtain ⟨q8, hq8, h⟩ := Option.bind_eq_some_iff.mp h
  refine k_I (k_runVN ⟨hx, hb, hml, hown, hts⟩ (c_Co_unitCount rfl hq8) ok_Co_unitCount is_Co_unitCount lk_344 rfl rfl ⟨by decide, by decide⟩ hP hK hD hS hA hz (ci := 1) (q0 := 1) rfl rfl ob_Co rfl hl.1 rfl (Nat.le_of_ble_eq_true rfl) d_Sh_isPlacedWrong_32 ⟨Nat.zero_le _, Nat.zero_le _⟩) hD hS hA (fun H locs hP hD hS => ?_)
  refine lv_iconst (v := 1) hx hb d_Sh_isPlacedWrong_35 (by decide) ?_
  refine lv_isub hx hb d_Sh_isPlacedWrong_36 ?_
  refine lv_icmp_ne (tgt := 46) hx hb d_Sh_isPlacedWrong_37 (by decide) (fun c9 => ?_) (fun c9 => ?_)
  · rw [if_neg c9] at h
    exact J46 _ _ _ _ _ _ h hP hD hS (lv_sub hl [2, 3, 1, 0] rfl)
  · rw [if_pos c9] at h
    refine lv_iload_n hx hb d_Sh_isPlacedWrong_40 rfl (lv_at hl 1 rfl) ?_
    refine lv_if_eq (tgt := 46) hx hb d_Sh_isPlacedWrong_41 (by decide) (fun c10 => ?_) (fun c10 => ?_)
    · rw [if_pos c10] at h
      exact J46 _ _ _ _ _ _ h hP hD hS (lv_sub hl [2, 3, 1, 0] rfl)
    · rw [if_neg c10] at h
      refine lv_iconst (v := 1) hx hb d_Sh_isPlacedWrong_44 (by decide) ?_
      cases h
      subst hQ
      exact k_zret hx hb hr hlk (Or.inr rfl) hP hK hD hS d_Sh_isPlacedWrong_45
theorem d_Sh_faultOf_0 : decode b_Sh_faultOf 0 = .ok (.aload_n 0, 1) := by decide +kernel
theorem d_Sh_faultOf_1 : decode b_Sh_faultOf 1 = .ok (.iload_n 1, 1) := by decide +kernel
theorem d_Sh_faultOf_2 : decode b_Sh_faultOf 2 = .ok (.putfield 15, 3) := by decide +kernel
theorem d_Sh_faultOf_5 : decode b_Sh_faultOf 5 = .ok (.aload_n 0, 1) := by decide +kernel
theorem d_Sh_faultOf_6 : decode b_Sh_faultOf 6 = .ok (.iload_n 2, 1) := by decide +kernel
theorem d_Sh_faultOf_7 : decode b_Sh_faultOf 7 = .ok (.invokevirtual 19, 3) := by decide +kernel
theorem d_Sh_faultOf_10 : decode b_Sh_faultOf 10 = .ok (.ifCond .eq 5, 3) := by decide +kernel
theorem d_Sh_faultOf_13 : decode b_Sh_faultOf 13 = .ok (.iconst 1, 1) := by decide +kernel
theorem d_Sh_faultOf_14 : decode b_Sh_faultOf 14 = .ok (.ireturn, 1) := by decide +kernel
theorem d_Sh_faultOf_15 : decode b_Sh_faultOf 15 = .ok (.aload_n 0, 1) := by decide +kernel
theorem d_Sh_faultOf_16 : decode b_Sh_faultOf 16 = .ok (.getfield 9, 3) := by decide +kernel
theorem d_Sh_faultOf_19 : decode b_Sh_faultOf 19 = .ok (.aload_n 0, 1) := by decide +kernel
theorem d_Sh_faultOf_20 : decode b_Sh_faultOf 20 = .ok (.getfield 15, 3) := by decide +kernel
theorem d_Sh_faultOf_23 : decode b_Sh_faultOf 23 = .ok (.invokevirtual 23, 3) := by decide +kernel
theorem d_Sh_faultOf_26 : decode b_Sh_faultOf 26 = .ok (.istore_n 3, 1) := by decide +kernel
theorem d_Sh_faultOf_27 : decode b_Sh_faultOf 27 = .ok (.iconst 0, 1) := by decide +kernel
theorem d_Sh_faultOf_28 : decode b_Sh_faultOf 28 = .ok (.istore 4, 2) := by decide +kernel
theorem d_Sh_faultOf_30 : decode b_Sh_faultOf 30 = .ok (.iload 4, 2) := by decide +kernel
theorem d_Sh_faultOf_32 : decode b_Sh_faultOf 32 = .ok (.iload_n 3, 1) := by decide +kernel
theorem d_Sh_faultOf_33 : decode b_Sh_faultOf 33 = .ok (.if_icmp .ge 29, 3) := by decide +kernel
theorem d_Sh_faultOf_36 : decode b_Sh_faultOf 36 = .ok (.aload_n 0, 1) := by decide +kernel
theorem d_Sh_faultOf_37 : decode b_Sh_faultOf 37 = .ok (.iload 4, 2) := by decide +kernel
theorem d_Sh_faultOf_39 : decode b_Sh_faultOf 39 = .ok (.invokevirtual 29, 3) := by decide +kernel
theorem d_Sh_faultOf_42 : decode b_Sh_faultOf 42 = .ok (.aload_n 0, 1) := by decide +kernel
theorem d_Sh_faultOf_43 : decode b_Sh_faultOf 43 = .ok (.invokevirtual 33, 3) := by decide +kernel
theorem d_Sh_faultOf_46 : decode b_Sh_faultOf 46 = .ok (.istore 5, 2) := by decide +kernel
theorem d_Sh_faultOf_48 : decode b_Sh_faultOf 48 = .ok (.iload 5, 2) := by decide +kernel
theorem d_Sh_faultOf_50 : decode b_Sh_faultOf 50 = .ok (.ifCond .eq 6, 3) := by decide +kernel
theorem d_Sh_faultOf_53 : decode b_Sh_faultOf 53 = .ok (.iload 5, 2) := by decide +kernel
theorem d_Sh_faultOf_55 : decode b_Sh_faultOf 55 = .ok (.ireturn, 1) := by decide +kernel
theorem d_Sh_faultOf_56 : decode b_Sh_faultOf 56 = .ok (.iinc 4 1, 3) := by decide +kernel
theorem d_Sh_faultOf_59 : decode b_Sh_faultOf 59 = .ok (.goto (-29), 3) := by decide +kernel
theorem d_Sh_faultOf_62 : decode b_Sh_faultOf 62 = .ok (.iconst 0, 1) := by decide +kernel
theorem d_Sh_faultOf_63 : decode b_Sh_faultOf 63 = .ok (.ireturn, 1) := by decide +kernel
def r_Sh_faultOf_l30 (n : Nat) (ko : T_ko)  : Nat → T_sh → Int32 → Int32 → Option (Int32 × T_sh)
  | 0, _, _, _ => none
  | f + 1, sh, x3, x4 => if x3 ≤ x4 then some ((0 : Int32), sh) else (r_Sh_lookAt n ko sh x4).bind (fun q2 => (r_Sh_faultHere n ko q2).bind (fun q3 => if q3 = 0 then (r_Sh_faultOf_l30 n ko f) q2 x3 (x4 + 1) else some (q3, q2)))
def r_Sh_faultOf (n : Nat) (ko : T_ko) (sh : T_sh) (a0 : Int32) (a1 : Int32) : Option (Int32 × T_sh) := (r_Sh_isPlacedWrong n ko (sh_unit_s sh a0) a1).bind (fun q5 => if q5 = 0 then (r_Co_sizeOf n ko (sh_unit (sh_unit_s sh a0))).bind (fun q7 => r_Sh_faultOf_l30 n ko n ((sh_unit_s sh a0)) q7 (0 : Int32)) else some ((1 : Int32), (sh_unit_s sh a0)))
def rm_Sh_faultOf : Jvm.Room := { frames := 5, cells := 0, slots := 0, locals := 109 }
set_option maxHeartbeats 4000000 in
set_option maxRecDepth 100000 in
theorem c_Sh_faultOf {l : Launch} {D : va_G} {cI cL : ClassId} {ad : Nat → Nat} {ma : T_ma} {ko : T_ko} {sh : T_sh} {lo : T_lo} {de : T_de} {wa : T_wa} {me : T_me} {ru : T_ru} {ws0 : va_W} {sz n : Nat} {a0 : Int32} {a1 : Int32} {r9 : Int32} {sh9 : T_sh} (hw : ws0 = (wX cI cL ad ma ko sh lo de wa me ru)) (h : r_Sh_faultOf n ko sh a0 a1 = some (r9, sh9)) : Met l y_Sh_faultOf (Cond.code y_Sh_faultOf b_Sh_faultOf 6 (some .int) :: TB) rm_Sh_faultOf (PreW D clX (tyX cI cL) ws0 [.ref (ad 10), .int a0, .int a1] sz) (PstI D clX (tyX cI cL) ws0 (wX cI cL ad ma ko (sh9) lo de wa me ru) sz r9) 0 0 (va_A ws0 sz) := by
  refine k_met (by decide) (Nat.le_of_ble_eq_true rfl) ?_
  intro p e s m below meth c ls hx hb hr hml hts hown hlk hnm hsz hP hK hD hA hz hl
  have hP : va_P D clX (wX cI cL ad ma ko sh lo de wa me ru) s.heap := by rw [← hw]; exact hP
  have hD : va_D (va_A ws0 sz) (wX cI cL ad ma ko sh lo de wa me ru) := by rw [← hw]; exact hD
  have hS : va_S (va_A ws0 sz) s.heap s.heap [] := va_S.rf
  have hl : lv_has ls 6 [(0, .ref (ad 10)), (1, .int a0), (2, .int a1)] := hl
  generalize hQ : MQ below (PstI D clX (tyX cI cL) ws0 (wX cI cL ad ma ko (sh9) lo de wa me ru) sz r9) [.ref (ad 10), .int a0, .int a1].toArray s 0 0 (va_A ws0 sz) = Q
  have L30 : ∀ (f30 : Nat), ∀ (sh : T_sh) (x3 : Int32) (x4 : Int32) (H : Heap) (locs : List Loc) (ls : Array Slot), r_Sh_faultOf_l30 n ko f30 sh x3 x4 = some (r9, sh9) → va_P D clX (wX cI cL ad ma ko sh lo de wa me ru) H → va_D (va_A ws0 sz) (wX cI cL ad ma ko sh lo de wa me ru) → va_S (va_A ws0 sz) s.heap H locs → lv_has ls 6 [(0, .ref (ad 10)), (3, .int x3), (4, .int x4)] → W p l e rm_Sh_faultOf s m [.ref (ad 10), .int a0, .int a1].toArray below meth c H locs 0 0 Q (F0 m 30 ls []) := by
    intro f30
    induction f30 with
    | zero =>
      intro sh x3 x4 H locs ls h hP hD hS hl
      exact absurd h (by intro h; cases h)
    | succ f30 ih30 =>
      intro sh x3 x4 H locs ls h hP hD hS hl
      rw [r_Sh_faultOf_l30] at h
      refine lv_iload hx hb d_Sh_faultOf_30 (lv_at hl 2 rfl) ?_
      refine lv_iload_n hx hb d_Sh_faultOf_32 rfl (lv_at hl 1 rfl) ?_
      refine lv_icmp_ge (tgt := 62) hx hb d_Sh_faultOf_33 (by decide) (fun c1 => ?_) (fun c1 => ?_)
      · rw [if_pos c1] at h
        refine lv_iconst (v := 0) hx hb d_Sh_faultOf_62 (by decide) ?_
        cases h
        subst hQ
        exact k_iret hx hb hr hlk hP hK hD hS d_Sh_faultOf_63
      · rw [if_neg c1] at h
        refine lv_aload_n hx hb d_Sh_faultOf_36 rfl (lv_at hl 0 rfl) ?_
        refine lv_iload hx hb d_Sh_faultOf_37 (lv_at hl 2 rfl) ?_
        obtain ⟨q2, hq2, h⟩ := Option.bind_eq_some_iff.mp h
        refine k_V (k_runV ⟨hx, hb, hml, hown, hts⟩ (c_Sh_lookAt rfl hq2) ok_Sh_lookAt is_Sh_lookAt lk_359 rfl rfl ⟨by decide, by decide⟩ hP hK hD hS hA hz (ci := 2) (q0 := 10) rfl rfl ob_Sh rfl hl.1 rfl (Nat.le_of_ble_eq_true rfl) d_Sh_faultOf_39 ⟨Nat.zero_le _, Nat.zero_le _⟩) hD hS hA (fun H locs hP hD hS => ?_)
        refine lv_aload_n hx hb d_Sh_faultOf_42 rfl (lv_at hl 0 rfl) ?_
        obtain ⟨q3, hq3, h⟩ := Option.bind_eq_some_iff.mp h
        refine k_I (k_runV ⟨hx, hb, hml, hown, hts⟩ (c_Sh_faultHere rfl hq3) ok_Sh_faultHere is_Sh_faultHere lk_383 rfl rfl ⟨by decide, by decide⟩ hP hK hD hS hA hz (ci := 2) (q0 := 10) rfl rfl ob_Sh rfl hl.1 rfl (Nat.le_of_ble_eq_true rfl) d_Sh_faultOf_43 ⟨Nat.zero_le _, Nat.zero_le _⟩) hD hS hA (fun H locs hP hD hS => ?_)
        refine lv_istore (lv' := [(5, .int q3), (0, .ref (ad 10)), (3, .int x3), (4, .int x4)]) hx hb d_Sh_faultOf_46 hl (by decide) rfl (fun ls hl => ?_)
        refine lv_iload hx hb d_Sh_faultOf_48 (lv_at hl 0 rfl) ?_
        refine lv_if_eq (tgt := 56) hx hb d_Sh_faultOf_50 (by decide) (fun c4 => ?_) (fun c4 => ?_)
        · rw [if_pos c4] at h
          refine lv_iinc (v := (x4 + 1)) (lv' := [(4, .int (x4 + 1)), (5, .int q3), (0, .ref (ad 10)), (3, .int x3)]) hx hb d_Sh_faultOf_56 hl (k := 3) rfl rfl (by decide) rfl (fun ls hl => ?_)
          refine lv_goto (tgt := 30) hx hb d_Sh_faultOf_59 (by decide) ?_
          exact ih30 _ _ _ _ _ _ h hP hD hS (lv_sub hl [2, 3, 0] rfl)
        · rw [if_neg c4] at h
          refine lv_iload hx hb d_Sh_faultOf_53 (lv_at hl 0 rfl) ?_
          cases h
          subst hQ
          exact k_iret hx hb hr hlk hP hK hD hS d_Sh_faultOf_55
  unfold r_Sh_faultOf at h
  refine lv_aload_n hx hb d_Sh_faultOf_0 rfl (lv_at hl 0 rfl) ?_
  refine lv_iload_n hx hb d_Sh_faultOf_1 rfl (lv_at hl 1 rfl) ?_
  refine wr_Sh_unit hx hb hts hown hK hP hD hS lk_67 d_Sh_faultOf_2 (fun H locs hP hD hS => ?_)
  refine lv_aload_n hx hb d_Sh_faultOf_5 rfl (lv_at hl 0 rfl) ?_
  refine lv_iload_n hx hb d_Sh_faultOf_6 rfl (lv_at hl 2 rfl) ?_
  obtain ⟨q5, hq5, h⟩ := Option.bind_eq_some_iff.mp h
  refine k_I (k_runV ⟨hx, hb, hml, hown, hts⟩ (c_Sh_isPlacedWrong rfl hq5) ok_Sh_isPlacedWrong is_Sh_isPlacedWrong lk_328 rfl rfl ⟨by decide, by decide⟩ hP hK hD hS hA hz (ci := 2) (q0 := 10) rfl rfl ob_Sh rfl hl.1 rfl (Nat.le_of_ble_eq_true rfl) d_Sh_faultOf_7 ⟨Nat.zero_le _, Nat.zero_le _⟩) hD hS hA (fun H locs hP hD hS => ?_)
  refine lv_if_eq (tgt := 15) hx hb d_Sh_faultOf_10 (by decide) (fun c6 => ?_) (fun c6 => ?_)
  · rw [if_pos c6] at h
    refine lv_aload_n hx hb d_Sh_faultOf_15 rfl (lv_at hl 0 rfl) ?_
    refine rd_Sh_code hx hb hts hown hK hP lk_66 d_Sh_faultOf_16 ?_
    refine lv_aload_n hx hb d_Sh_faultOf_19 rfl (lv_at hl 0 rfl) ?_
    refine rd_Sh_unit hx hb hts hown hK hP lk_67 (v := (sh_unit (sh_unit_s sh a0))) rfl d_Sh_faultOf_20 ?_
    obtain ⟨q7, hq7, h⟩ := Option.bind_eq_some_iff.mp h
    refine k_I (k_runVN ⟨hx, hb, hml, hown, hts⟩ (c_Co_sizeOf rfl hq7) ok_Co_sizeOf is_Co_sizeOf lk_355 rfl rfl ⟨by decide, by decide⟩ hP hK hD hS hA hz (ci := 1) (q0 := 1) rfl rfl ob_Co rfl hl.1 rfl (Nat.le_of_ble_eq_true rfl) d_Sh_faultOf_23 ⟨Nat.zero_le _, Nat.zero_le _⟩) hD hS hA (fun H locs hP hD hS => ?_)
    refine lv_istore_n (lv' := [(3, .int q7), (0, .ref (ad 10)), (1, .int a0), (2, .int a1)]) hx hb d_Sh_faultOf_26 rfl hl (by decide) rfl (fun ls hl => ?_)
    refine lv_iconst (v := 0) hx hb d_Sh_faultOf_27 (by decide) ?_
    refine lv_istore (lv' := [(4, .int (0 : Int32)), (3, .int q7), (0, .ref (ad 10)), (1, .int a0), (2, .int a1)]) hx hb d_Sh_faultOf_28 hl (by decide) rfl (fun ls hl => ?_)
    exact L30 n _ _ _ _ _ _ h hP hD hS (lv_sub hl [2, 1, 0] rfl)
  · rw [if_neg c6] at h
    refine lv_iconst (v := 1) hx hb d_Sh_faultOf_13 (by decide) ?_
    cases h
    subst hQ
    exact k_iret hx hb hr hlk hP hK hD hS d_Sh_faultOf_14
