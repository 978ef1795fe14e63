/-! printed by wip/gen/gen3.py: pure functions and contracts of ScanMachine$Code -/
theorem d_Co_entry_0 : decode b_Co_entry 0 = .ok (.iload_n 2, 1) := by decide +kernel
theorem d_Co_entry_1 : decode b_Co_entry 1 = .ok (.ifCond .lt 25, 3) := by decide +kernel
theorem d_Co_entry_4 : decode b_Co_entry 4 = .ok (.iload_n 2, 1) := by decide +kernel
theorem d_Co_entry_5 : decode b_Co_entry 5 = .ok (.aload_n 0, 1) := by decide +kernel
theorem d_Co_entry_6 : decode b_Co_entry 6 = .ok (.getfield 36, 3) := by decide +kernel
theorem d_Co_entry_9 : decode b_Co_entry 9 = .ok (.if_icmp .ge 17, 3) := by decide +kernel
theorem d_Co_entry_12 : decode b_Co_entry 12 = .ok (.iload_n 3, 1) := by decide +kernel
theorem d_Co_entry_13 : decode b_Co_entry 13 = .ok (.ifCond .lt 13, 3) := by decide +kernel
theorem d_Co_entry_16 : decode b_Co_entry 16 = .ok (.iload_n 3, 1) := by decide +kernel
theorem d_Co_entry_17 : decode b_Co_entry 17 = .ok (.aload_n 0, 1) := by decide +kernel
theorem d_Co_entry_18 : decode b_Co_entry 18 = .ok (.getfield 21, 3) := by decide +kernel
theorem d_Co_entry_21 : decode b_Co_entry 21 = .ok (.iload_n 2, 1) := by decide +kernel
theorem d_Co_entry_22 : decode b_Co_entry 22 = .ok (.iaload, 1) := by decide +kernel
theorem d_Co_entry_23 : decode b_Co_entry 23 = .ok (.if_icmp .lt 5, 3) := by decide +kernel
theorem d_Co_entry_26 : decode b_Co_entry 26 = .ok (.iconst (-1), 1) := by decide +kernel
theorem d_Co_entry_27 : decode b_Co_entry 27 = .ok (.ireturn, 1) := by decide +kernel
theorem d_Co_entry_28 : decode b_Co_entry 28 = .ok (.aload_n 0, 1) := by decide +kernel
theorem d_Co_entry_29 : decode b_Co_entry 29 = .ok (.getfield 18, 3) := by decide +kernel
theorem d_Co_entry_32 : decode b_Co_entry 32 = .ok (.iload_n 2, 1) := by decide +kernel
theorem d_Co_entry_33 : decode b_Co_entry 33 = .ok (.iaload, 1) := by decide +kernel
theorem d_Co_entry_34 : decode b_Co_entry 34 = .ok (.iload_n 3, 1) := by decide +kernel
theorem d_Co_entry_35 : decode b_Co_entry 35 = .ok (.iadd, 1) := by decide +kernel
theorem d_Co_entry_36 : decode b_Co_entry 36 = .ok (.istore 4, 2) := by decide +kernel
theorem d_Co_entry_38 : decode b_Co_entry 38 = .ok (.iload 4, 2) := by decide +kernel
theorem d_Co_entry_40 : decode b_Co_entry 40 = .ok (.ifCond .lt 17, 3) := by decide +kernel
theorem d_Co_entry_43 : decode b_Co_entry 43 = .ok (.iload 4, 2) := by decide +kernel
theorem d_Co_entry_45 : decode b_Co_entry 45 = .ok (.aload_n 1, 1) := by decide +kernel
theorem d_Co_entry_46 : decode b_Co_entry 46 = .ok (.arraylength, 1) := by decide +kernel
theorem d_Co_entry_47 : decode b_Co_entry 47 = .ok (.if_icmp .ge 10, 3) := by decide +kernel
theorem d_Co_entry_50 : decode b_Co_entry 50 = .ok (.aload_n 1, 1) := by decide +kernel
theorem d_Co_entry_51 : decode b_Co_entry 51 = .ok (.iload 4, 2) := by decide +kernel
theorem d_Co_entry_53 : decode b_Co_entry 53 = .ok (.iaload, 1) := by decide +kernel
theorem d_Co_entry_54 : decode b_Co_entry 54 = .ok (.goto 4, 3) := by decide +kernel
theorem d_Co_entry_57 : decode b_Co_entry 57 = .ok (.iconst (-1), 1) := by decide +kernel
theorem d_Co_entry_58 : decode b_Co_entry 58 = .ok (.ireturn, 1) := by decide +kernel
def r_Co_entry_bs (n : Nat) (ko : T_ko) (a1 : Int32) (a2 : Int32) : Option (Int32) := if a1 < 0 then some ((-1 : Int32)) else if (ko_units ko) ≤ a1 then some ((-1 : Int32)) else if a2 < 0 then some ((-1 : Int32)) else gr (ko_sizes ko) a1 16 (fun v5 => if a2 < v5 then gr (ko_firsts ko) a1 16 (fun v8 => if (v8 + a2) < 0 then some ((-1 : Int32)) else if (256 : Int32) ≤ (v8 + a2) then some ((-1 : Int32)) else gr (ko_bs ko) (v8 + a2) 256 (fun v12 => some (v12))) else some ((-1 : Int32)))
def rm_Co_entry_bs : Jvm.Room := { frames := 0, cells := 0, slots := 0, locals := 0 }
set_option maxHeartbeats 4000000 in
set_option maxRecDepth 100000 in
theorem c_Co_entry_bs {l : Launch} {D : va_G} {cI cL : ClassId} {ad : Nat → Nat} {ma : T_ma} {ko : T_ko} {sh : T_sh} {lo : T_lo} {de : T_de} {wa : T_wa} {me : T_me} {ru : T_ru} {ws0 : va_W} {sz n : Nat} {a1 : Int32} {a2 : Int32} {r9 : Int32} (hw : ws0 = (wX cI cL ad ma ko sh lo de wa me ru)) (h : r_Co_entry_bs n ko a1 a2 = some r9) : Met l y_Co_entry (Cond.code y_Co_entry b_Co_entry 5 (some .int) :: TB) rm_Co_entry_bs (PreW D clX (tyX cI cL) ws0 [.ref (ad 1), .ref (ad 8), .int a1, .int a2] sz) (PstI D clX (tyX cI cL) ws0 (wX cI cL ad ma ko sh lo de wa me ru) sz r9) 0 0 (va_A ws0 sz) := by
  refine k_met (by decide) (Nat.le_of_ble_eq_true rfl) ?_
  intro p e s m below meth c ls hx hb hr hml hts hown hlk hnm hsz hP hK hD hA hz hl
  have hP : va_P D clX (wX cI cL ad ma ko sh lo de wa me ru) s.heap := by rw [← hw]; exact hP
  have hD : va_D (va_A ws0 sz) (wX cI cL ad ma ko sh lo de wa me ru) := by rw [← hw]; exact hD
  have hS : va_S (va_A ws0 sz) s.heap s.heap [] := va_S.rf
  have hl : lv_has ls 5 [(0, .ref (ad 1)), (1, .ref (ad 8)), (2, .int a1), (3, .int a2)] := hl
  generalize hQ : MQ below (PstI D clX (tyX cI cL) ws0 (wX cI cL ad ma ko sh lo de wa me ru) sz r9) [.ref (ad 1), .ref (ad 8), .int a1, .int a2].toArray s 0 0 (va_A ws0 sz) = Q
  unfold r_Co_entry_bs at h
  refine lv_iload_n hx hb d_Co_entry_0 rfl (lv_at hl 2 rfl) ?_
  refine lv_if_lt (tgt := 26) hx hb d_Co_entry_1 (by decide) (fun c1 => ?_) (fun c1 => ?_)
  · rw [if_pos c1] at h
    refine lv_iconst (v := -1) hx hb d_Co_entry_26 (by decide) ?_
    cases h
    subst hQ
    exact k_iret hx hb hr hlk hP hK hD hS d_Co_entry_27
  · rw [if_neg c1] at h
    refine lv_iload_n hx hb d_Co_entry_4 rfl (lv_at hl 2 rfl) ?_
    refine lv_aload_n hx hb d_Co_entry_5 rfl (lv_at hl 0 rfl) ?_
    refine rd_Co_units hx hb hts hown hK hP lk_36 (v := (ko_units ko)) rfl d_Co_entry_6 ?_
    refine lv_icmp_ge (tgt := 26) hx hb d_Co_entry_9 (by decide) (fun c2 => ?_) (fun c2 => ?_)
    · rw [if_pos c2] at h
      refine lv_iconst (v := -1) hx hb d_Co_entry_26 (by decide) ?_
      cases h
      subst hQ
      exact k_iret hx hb hr hlk hP hK hD hS d_Co_entry_27
    · rw [if_neg c2] at h
      refine lv_iload_n hx hb d_Co_entry_12 rfl (lv_at hl 3 rfl) ?_
      refine lv_if_lt (tgt := 26) hx hb d_Co_entry_13 (by decide) (fun c3 => ?_) (fun c3 => ?_)
      · rw [if_pos c3] at h
        refine lv_iconst (v := -1) hx hb d_Co_entry_26 (by decide) ?_
        cases h
        subst hQ
        exact k_iret hx hb hr hlk hP hK hD hS d_Co_entry_27
      · rw [if_neg c3] at h
        refine lv_iload_n hx hb d_Co_entry_16 rfl (lv_at hl 3 rfl) ?_
        refine lv_aload_n hx hb d_Co_entry_17 rfl (lv_at hl 0 rfl) ?_
        refine rd_Co_sizes hx hb hts hown hK hP lk_31 d_Co_entry_18 ?_
        refine lv_iload_n hx hb d_Co_entry_21 rfl (lv_at hl 2 rfl) ?_
        obtain ⟨hi4, v5, ev5, h⟩ := gr_some h
        refine ld_Co_sizes hx hb hK hP hi4 ev5 d_Co_entry_22 ?_
        refine lv_icmp_lt (tgt := 28) hx hb d_Co_entry_23 (by decide) (fun c6 => ?_) (fun c6 => ?_)
        · rw [if_pos c6] at h
          refine lv_aload_n hx hb d_Co_entry_28 rfl (lv_at hl 0 rfl) ?_
          refine rd_Co_firsts hx hb hts hown hK hP lk_30 d_Co_entry_29 ?_
          refine lv_iload_n hx hb d_Co_entry_32 rfl (lv_at hl 2 rfl) ?_
          obtain ⟨hi7, v8, ev8, h⟩ := gr_some h
          refine ld_Co_firsts hx hb hK hP hi7 ev8 d_Co_entry_33 ?_
          refine lv_iload_n hx hb d_Co_entry_34 rfl (lv_at hl 3 rfl) ?_
          refine lv_iadd hx hb d_Co_entry_35 ?_
          refine lv_istore (lv' := [(4, .int (v8 + a2)), (0, .ref (ad 1)), (1, .ref (ad 8)), (2, .int a1), (3, .int a2)]) hx hb d_Co_entry_36 hl (by decide) rfl (fun ls hl => ?_)
          refine lv_iload hx hb d_Co_entry_38 (lv_at hl 0 rfl) ?_
          refine lv_if_lt (tgt := 57) hx hb d_Co_entry_40 (by decide) (fun c9 => ?_) (fun c9 => ?_)
          · rw [if_pos c9] at h
            refine lv_iconst (v := -1) hx hb d_Co_entry_57 (by decide) ?_
            cases h
            subst hQ
            exact k_iret hx hb hr hlk hP hK hD hS d_Co_entry_58
          · rw [if_neg c9] at h
            refine lv_iload hx hb d_Co_entry_43 (lv_at hl 0 rfl) ?_
            refine lv_aload_n hx hb d_Co_entry_45 rfl (lv_at hl 2 rfl) ?_
            refine le_Co_bs hx hb hK hP d_Co_entry_46 ?_
            refine lv_icmp_ge (tgt := 57) hx hb d_Co_entry_47 (by decide) (fun c10 => ?_) (fun c10 => ?_)
            · rw [if_pos c10] at h
              refine lv_iconst (v := -1) hx hb d_Co_entry_57 (by decide) ?_
              cases h
              subst hQ
              exact k_iret hx hb hr hlk hP hK hD hS d_Co_entry_58
            · rw [if_neg c10] at h
              refine lv_aload_n hx hb d_Co_entry_50 rfl (lv_at hl 2 rfl) ?_
              refine lv_iload hx hb d_Co_entry_51 (lv_at hl 0 rfl) ?_
              obtain ⟨hi11, v12, ev12, h⟩ := gr_some h
              refine ld_Co_bs hx hb hK hP hi11 ev12 d_Co_entry_53 ?_
              refine lv_goto (tgt := 58) hx hb d_Co_entry_54 (by decide) ?_
              cases h
              subst hQ
              exact k_iret hx hb hr hlk hP hK hD hS d_Co_entry_58
        · rw [if_neg c6] at h
          refine lv_iconst (v := -1) hx hb d_Co_entry_26 (by decide) ?_
          cases h
          subst hQ
          exact k_iret hx hb hr hlk hP hK hD hS d_Co_entry_27
theorem d_Co_bAt_0 : decode b_Co_bAt 0 = .ok (.aload_n 0, 1) := by decide +kernel
theorem d_Co_bAt_1 : decode b_Co_bAt 1 = .ok (.aload_n 0, 1) := by decide +kernel
theorem d_Co_bAt_2 : decode b_Co_bAt 2 = .ok (.getfield 30, 3) := by decide +kernel
theorem d_Co_bAt_5 : decode b_Co_bAt 5 = .ok (.iload_n 1, 1) := by decide +kernel
theorem d_Co_bAt_6 : decode b_Co_bAt 6 = .ok (.iload_n 2, 1) := by decide +kernel
theorem d_Co_bAt_7 : decode b_Co_bAt 7 = .ok (.invokevirtual 54, 3) := by decide +kernel
theorem d_Co_bAt_10 : decode b_Co_bAt 10 = .ok (.ireturn, 1) := by decide +kernel
def r_Co_bAt (n : Nat) (ko : T_ko) (a0 : Int32) (a1 : Int32) : Option (Int32) := (r_Co_entry_bs n ko a0 a1).bind (fun q1 => some (q1))
def rm_Co_bAt : Jvm.Room := { frames := 1, cells := 0, slots := 0, locals := 24 }
set_option maxHeartbeats 4000000 in
set_option maxRecDepth 100000 in
theorem c_Co_bAt {l : Launch} {D : va_G} {cI cL : ClassId} {ad : Nat → Nat} {ma : T_ma} {ko : T_ko} {sh : T_sh} {lo : T_lo} {de : T_de} {wa : T_wa} {me : T_me} {ru : T_ru} {ws0 : va_W} {sz n : Nat} {a0 : Int32} {a1 : Int32} {r9 : Int32} (hw : ws0 = (wX cI cL ad ma ko sh lo de wa me ru)) (h : r_Co_bAt n ko a0 a1 = some r9) : Met l y_Co_bAt (Cond.code y_Co_bAt b_Co_bAt 3 (some .int) :: TB) rm_Co_bAt (PreW D clX (tyX cI cL) ws0 [.ref (ad 1), .int a0, .int a1] sz) (PstI D clX (tyX cI cL) ws0 (wX cI cL ad ma ko sh lo de wa me ru) sz r9) 0 0 (va_A ws0 sz) := by
  refine k_met (by decide) (Nat.le_of_ble_eq_true rfl) ?_
  intro p e s m below meth c ls hx hb hr hml hts hown hlk hnm hsz hP hK hD hA hz hl
  have hP : va_P D clX (wX cI cL ad ma ko sh lo de wa me ru) s.heap := by rw [← hw]; exact hP
  have hD : va_D (va_A ws0 sz) (wX cI cL ad ma ko sh lo de wa me ru) := by rw [← hw]; exact hD
  have hS : va_S (va_A ws0 sz) s.heap s.heap [] := va_S.rf
  have hl : lv_has ls 3 [(0, .ref (ad 1)), (1, .int a0), (2, .int a1)] := hl
  generalize hQ : MQ below (PstI D clX (tyX cI cL) ws0 (wX cI cL ad ma ko sh lo de wa me ru) sz r9) [.ref (ad 1), .int a0, .int a1].toArray s 0 0 (va_A ws0 sz) = Q
  unfold r_Co_bAt at h
  refine lv_aload_n hx hb d_Co_bAt_0 rfl (lv_at hl 0 rfl) ?_
  refine lv_aload_n hx hb d_Co_bAt_1 rfl (lv_at hl 0 rfl) ?_
  refine rd_Co_bs hx hb hts hown hK hP lk_34 d_Co_bAt_2 ?_
  refine lv_iload_n hx hb d_Co_bAt_5 rfl (lv_at hl 1 rfl) ?_
  refine lv_iload_n hx hb d_Co_bAt_6 rfl (lv_at hl 2 rfl) ?_
  obtain ⟨q1, hq1, h⟩ := Option.bind_eq_some_iff.mp h
  refine k_I (k_runV ⟨hx, hb, hml, hown, hts⟩ (c_Co_entry_bs rfl hq1) ok_Co_entry is_Co_entry lk_367 rfl rfl ⟨by decide, by decide⟩ hP hK hD hS hA hz (ci := 1) (q0 := 1) rfl rfl ob_Co rfl hl.1 rfl (Nat.le_of_ble_eq_true rfl) d_Co_bAt_7 ⟨Nat.zero_le _, Nat.zero_le _⟩) hD hS hA (fun H locs hP hD hS => ?_)
  cases h
  subst hQ
  exact k_iret hx hb hr hlk hP hK hD hS d_Co_bAt_10
def r_Co_entry_numbers (n : Nat) (ko : T_ko) (a1 : Int32) (a2 : Int32) : Option (Int32) := if a1 < 0 then some ((-1 : Int32)) else if (ko_units ko) ≤ a1 then some ((-1 : Int32)) else if a2 < 0 then some ((-1 : Int32)) else gr (ko_sizes ko) a1 16 (fun v5 => if a2 < v5 then gr (ko_firsts ko) a1 16 (fun v8 => if (v8 + a2) < 0 then some ((-1 : Int32)) else if (256 : Int32) ≤ (v8 + a2) then some ((-1 : Int32)) else gr (ko_numbers ko) (v8 + a2) 256 (fun v12 => some (v12))) else some ((-1 : Int32)))
def rm_Co_entry_numbers : Jvm.Room := { frames := 0, cells := 0, slots := 0, locals := 0 }
set_option maxHeartbeats 4000000 in
set_option maxRecDepth 100000 in
theorem c_Co_entry_numbers {l : Launch} {D : va_G} {cI cL : ClassId} {ad : Nat → Nat} {ma : T_ma} {ko : T_ko} {sh : T_sh} {lo : T_lo} {de : T_de} {wa : T_wa} {me : T_me} {ru : T_ru} {ws0 : va_W} {sz n : Nat} {a1 : Int32} {a2 : Int32} {r9 : Int32} (hw : ws0 = (wX cI cL ad ma ko sh lo de wa me ru)) (h : r_Co_entry_numbers n ko a1 a2 = some r9) : Met l y_Co_entry (Cond.code y_Co_entry b_Co_entry 5 (some .int) :: TB) rm_Co_entry_numbers (PreW D clX (tyX cI cL) ws0 [.ref (ad 1), .ref (ad 6), .int a1, .int a2] sz) (PstI D clX (tyX cI cL) ws0 (wX cI cL ad ma ko sh lo de wa me ru) sz r9) 0 0 (va_A ws0 sz) := by
  refine k_met (by decide) (Nat.le_of_ble_eq_true rfl) ?_
  intro p e s m below meth c ls hx hb hr hml hts hown hlk hnm hsz hP hK hD hA hz hl
  have hP : va_P D clX (wX cI cL ad ma ko sh lo de wa me ru) s.heap := by rw [← hw]; exact hP
  have hD : va_D (va_A ws0 sz) (wX cI cL ad ma ko sh lo de wa me ru) := by rw [← hw]; exact hD
  have hS : va_S (va_A ws0 sz) s.heap s.heap [] := va_S.rf
  have hl : lv_has ls 5 [(0, .ref (ad 1)), (1, .ref (ad 6)), (2, .int a1), (3, .int a2)] := hl
  generalize hQ : MQ below (PstI D clX (tyX cI cL) ws0 (wX cI cL ad ma ko sh lo de wa me ru) sz r9) [.ref (ad 1), .ref (ad 6), .int a1, .int a2].toArray s 0 0 (va_A ws0 sz) = Q
  unfold r_Co_entry_numbers at h
  refine lv_iload_n hx hb d_Co_entry_0 rfl (lv_at hl 2 rfl) ?_
  refine lv_if_lt (tgt := 26) hx hb d_Co_entry_1 (by decide) (fun c1 => ?_) (fun c1 => ?_)
  · rw [if_pos c1] at h
    refine lv_iconst (v := -1) hx hb d_Co_entry_26 (by decide) ?_
    cases h
    subst hQ
    exact k_iret hx hb hr hlk hP hK hD hS d_Co_entry_27
  · rw [if_neg c1] at h
    refine lv_iload_n hx hb d_Co_entry_4 rfl (lv_at hl 2 rfl) ?_
    refine lv_aload_n hx hb d_Co_entry_5 rfl (lv_at hl 0 rfl) ?_
    refine rd_Co_units hx hb hts hown hK hP lk_36 (v := (ko_units ko)) rfl d_Co_entry_6 ?_
    refine lv_icmp_ge (tgt := 26) hx hb d_Co_entry_9 (by decide) (fun c2 => ?_) (fun c2 => ?_)
    · rw [if_pos c2] at h
      refine lv_iconst (v := -1) hx hb d_Co_entry_26 (by decide) ?_
      cases h
      subst hQ
      exact k_iret hx hb hr hlk hP hK hD hS d_Co_entry_27
    · rw [if_neg c2] at h
      refine lv_iload_n hx hb d_Co_entry_12 rfl (lv_at hl 3 rfl) ?_
      refine lv_if_lt (tgt := 26) hx hb d_Co_entry_13 (by decide) (fun c3 => ?_) (fun c3 => ?_)
      · rw [if_pos c3] at h
        refine lv_iconst (v := -1) hx hb d_Co_entry_26 (by decide) ?_
        cases h
        subst hQ
        exact k_iret hx hb hr hlk hP hK hD hS d_Co_entry_27
      · rw [if_neg c3] at h
        refine lv_iload_n hx hb d_Co_entry_16 rfl (lv_at hl 3 rfl) ?_
        refine lv_aload_n hx hb d_Co_entry_17 rfl (lv_at hl 0 rfl) ?_
        refine rd_Co_sizes hx hb hts hown hK hP lk_31 d_Co_entry_18 ?_
        refine lv_iload_n hx hb d_Co_entry_21 rfl (lv_at hl 2 rfl) ?_
        obtain ⟨hi4, v5, ev5, h⟩ := gr_some h
        refine ld_Co_sizes hx hb hK hP hi4 ev5 d_Co_entry_22 ?_
        refine lv_icmp_lt (tgt := 28) hx hb d_Co_entry_23 (by decide) (fun c6 => ?_) (fun c6 => ?_)
        · rw [if_pos c6] at h
          refine lv_aload_n hx hb d_Co_entry_28 rfl (lv_at hl 0 rfl) ?_
          refine rd_Co_firsts hx hb hts hown hK hP lk_30 d_Co_entry_29 ?_
          refine lv_iload_n hx hb d_Co_entry_32 rfl (lv_at hl 2 rfl) ?_
          obtain ⟨hi7, v8, ev8, h⟩ := gr_some h
          refine ld_Co_firsts hx hb hK hP hi7 ev8 d_Co_entry_33 ?_
          refine lv_iload_n hx hb d_Co_entry_34 rfl (lv_at hl 3 rfl) ?_
          refine lv_iadd hx hb d_Co_entry_35 ?_
          refine lv_istore (lv' := [(4, .int (v8 + a2)), (0, .ref (ad 1)), (1, .ref (ad 6)), (2, .int a1), (3, .int a2)]) hx hb d_Co_entry_36 hl (by decide) rfl (fun ls hl => ?_)
          refine lv_iload hx hb d_Co_entry_38 (lv_at hl 0 rfl) ?_
          refine lv_if_lt (tgt := 57) hx hb d_Co_entry_40 (by decide) (fun c9 => ?_) (fun c9 => ?_)
          · rw [if_pos c9] at h
            refine lv_iconst (v := -1) hx hb d_Co_entry_57 (by decide) ?_
            cases h
            subst hQ
            exact k_iret hx hb hr hlk hP hK hD hS d_Co_entry_58
          · rw [if_neg c9] at h
            refine lv_iload hx hb d_Co_entry_43 (lv_at hl 0 rfl) ?_
            refine lv_aload_n hx hb d_Co_entry_45 rfl (lv_at hl 2 rfl) ?_
            refine le_Co_numbers hx hb hK hP d_Co_entry_46 ?_
            refine lv_icmp_ge (tgt := 57) hx hb d_Co_entry_47 (by decide) (fun c10 => ?_) (fun c10 => ?_)
            · rw [if_pos c10] at h
              refine lv_iconst (v := -1) hx hb d_Co_entry_57 (by decide) ?_
              cases h
              subst hQ
              exact k_iret hx hb hr hlk hP hK hD hS d_Co_entry_58
            · rw [if_neg c10] at h
              refine lv_aload_n hx hb d_Co_entry_50 rfl (lv_at hl 2 rfl) ?_
              refine lv_iload hx hb d_Co_entry_51 (lv_at hl 0 rfl) ?_
              obtain ⟨hi11, v12, ev12, h⟩ := gr_some h
              refine ld_Co_numbers hx hb hK hP hi11 ev12 d_Co_entry_53 ?_
              refine lv_goto (tgt := 58) hx hb d_Co_entry_54 (by decide) ?_
              cases h
              subst hQ
              exact k_iret hx hb hr hlk hP hK hD hS d_Co_entry_58
        · rw [if_neg c6] at h
          refine lv_iconst (v := -1) hx hb d_Co_entry_26 (by decide) ?_
          cases h
          subst hQ
          exact k_iret hx hb hr hlk hP hK hD hS d_Co_entry_27
theorem d_Co_numberAt_0 : decode b_Co_numberAt 0 = .ok (.aload_n 0, 1) := by decide +kernel
theorem d_Co_numberAt_1 : decode b_Co_numberAt 1 = .ok (.aload_n 0, 1) := by decide +kernel
theorem d_Co_numberAt_2 : decode b_Co_numberAt 2 = .ok (.getfield 24, 3) := by decide +kernel
theorem d_Co_numberAt_5 : decode b_Co_numberAt 5 = .ok (.iload_n 1, 1) := by decide +kernel
theorem d_Co_numberAt_6 : decode b_Co_numberAt 6 = .ok (.iload_n 2, 1) := by decide +kernel
theorem d_Co_numberAt_7 : decode b_Co_numberAt 7 = .ok (.invokevirtual 54, 3) := by decide +kernel
theorem d_Co_numberAt_10 : decode b_Co_numberAt 10 = .ok (.ireturn, 1) := by decide +kernel
def r_Co_numberAt (n : Nat) (ko : T_ko) (a0 : Int32) (a1 : Int32) : Option (Int32) := (r_Co_entry_numbers n ko a0 a1).bind (fun q1 => some (q1))
def rm_Co_numberAt : Jvm.Room := { frames := 1, cells := 0, slots := 0, locals := 24 }
set_option maxHeartbeats 4000000 in
set_option maxRecDepth 100000 in
theorem c_Co_numberAt {l : Launch} {D : va_G} {cI cL : ClassId} {ad : Nat → Nat} {ma : T_ma} {ko : T_ko} {sh : T_sh} {lo : T_lo} {de : T_de} {wa : T_wa} {me : T_me} {ru : T_ru} {ws0 : va_W} {sz n : Nat} {a0 : Int32} {a1 : Int32} {r9 : Int32} (hw : ws0 = (wX cI cL ad ma ko sh lo de wa me ru)) (h : r_Co_numberAt n ko a0 a1 = some r9) : Met l y_Co_numberAt (Cond.code y_Co_numberAt b_Co_numberAt 3 (some .int) :: TB) rm_Co_numberAt (PreW D clX (tyX cI cL) ws0 [.ref (ad 1), .int a0, .int a1] sz) (PstI D clX (tyX cI cL) ws0 (wX cI cL ad ma ko sh lo de wa me ru) sz r9) 0 0 (va_A ws0 sz) := by
  refine k_met (by decide) (Nat.le_of_ble_eq_true rfl) ?_
  intro p e s m below meth c ls hx hb hr hml hts hown hlk hnm hsz hP hK hD hA hz hl
  have hP : va_P D clX (wX cI cL ad ma ko sh lo de wa me ru) s.heap := by rw [← hw]; exact hP
  have hD : va_D (va_A ws0 sz) (wX cI cL ad ma ko sh lo de wa me ru) := by rw [← hw]; exact hD
  have hS : va_S (va_A ws0 sz) s.heap s.heap [] := va_S.rf
  have hl : lv_has ls 3 [(0, .ref (ad 1)), (1, .int a0), (2, .int a1)] := hl
  generalize hQ : MQ below (PstI D clX (tyX cI cL) ws0 (wX cI cL ad ma ko sh lo de wa me ru) sz r9) [.ref (ad 1), .int a0, .int a1].toArray s 0 0 (va_A ws0 sz) = Q
  unfold r_Co_numberAt at h
  refine lv_aload_n hx hb d_Co_numberAt_0 rfl (lv_at hl 0 rfl) ?_
  refine lv_aload_n hx hb d_Co_numberAt_1 rfl (lv_at hl 0 rfl) ?_
  refine rd_Co_numbers hx hb hts hown hK hP lk_32 d_Co_numberAt_2 ?_
  refine lv_iload_n hx hb d_Co_numberAt_5 rfl (lv_at hl 1 rfl) ?_
  refine lv_iload_n hx hb d_Co_numberAt_6 rfl (lv_at hl 2 rfl) ?_
  obtain ⟨q1, hq1, h⟩ := Option.bind_eq_some_iff.mp h
  refine k_I (k_runV ⟨hx, hb, hml, hown, hts⟩ (c_Co_entry_numbers rfl hq1) ok_Co_entry is_Co_entry lk_367 rfl rfl ⟨by decide, by decide⟩ hP hK hD hS hA hz (ci := 1) (q0 := 1) rfl rfl ob_Co rfl hl.1 rfl (Nat.le_of_ble_eq_true rfl) d_Co_numberAt_7 ⟨Nat.zero_le _, Nat.zero_le _⟩) hD hS hA (fun H locs hP hD hS => ?_)
  cases h
  subst hQ
  exact k_iret hx hb hr hlk hP hK hD hS d_Co_numberAt_10
def r_Co_entry_as (n : Nat) (ko : T_ko) (a1 : Int32) (a2 : Int32) : Option (Int32) := if a1 < 0 then some ((-1 : Int32)) else if (ko_units ko) ≤ a1 then some ((-1 : Int32)) else if a2 < 0 then some ((-1 : Int32)) else gr (ko_sizes ko) a1 16 (fun v5 => if a2 < v5 then gr (ko_firsts ko) a1 16 (fun v8 => if (v8 + a2) < 0 then some ((-1 : Int32)) else if (256 : Int32) ≤ (v8 + a2) then some ((-1 : Int32)) else gr (ko_as_ ko) (v8 + a2) 256 (fun v12 => some (v12))) else some ((-1 : Int32)))
def rm_Co_entry_as : Jvm.Room := { frames := 0, cells := 0, slots := 0, locals := 0 }
set_option maxHeartbeats 4000000 in
set_option maxRecDepth 100000 in
theorem c_Co_entry_as {l : Launch} {D : va_G} {cI cL : ClassId} {ad : Nat → Nat} {ma : T_ma} {ko : T_ko} {sh : T_sh} {lo : T_lo} {de : T_de} {wa : T_wa} {me : T_me} {ru : T_ru} {ws0 : va_W} {sz n : Nat} {a1 : Int32} {a2 : Int32} {r9 : Int32} (hw : ws0 = (wX cI cL ad ma ko sh lo de wa me ru)) (h : r_Co_entry_as n ko a1 a2 = some r9) : Met l y_Co_entry (Cond.code y_Co_entry b_Co_entry 5 (some .int) :: TB) rm_Co_entry_as (PreW D clX (tyX cI cL) ws0 [.ref (ad 1), .ref (ad 7), .int a1, .int a2] sz) (PstI D clX (tyX cI cL) ws0 (wX cI cL ad ma ko sh lo de wa me ru) sz r9) 0 0 (va_A ws0 sz) := by
  refine k_met (by decide) (Nat.le_of_ble_eq_true rfl) ?_
  intro p e s m below meth c ls hx hb hr hml hts hown hlk hnm hsz hP hK hD hA hz hl
  have hP : va_P D clX (wX cI cL ad ma ko sh lo de wa me ru) s.heap := by rw [← hw]; exact hP
  have hD : va_D (va_A ws0 sz) (wX cI cL ad ma ko sh lo de wa me ru) := by rw [← hw]; exact hD
  have hS : va_S (va_A ws0 sz) s.heap s.heap [] := va_S.rf
  have hl : lv_has ls 5 [(0, .ref (ad 1)), (1, .ref (ad 7)), (2, .int a1), (3, .int a2)] := hl
  generalize hQ : MQ below (PstI D clX (tyX cI cL) ws0 (wX cI cL ad ma ko sh lo de wa me ru) sz r9) [.ref (ad 1), .ref (ad 7), .int a1, .int a2].toArray s 0 0 (va_A ws0 sz) = Q
  unfold r_Co_entry_as at h
  refine lv_iload_n hx hb d_Co_entry_0 rfl (lv_at hl 2 rfl) ?_
  refine lv_if_lt (tgt := 26) hx hb d_Co_entry_1 (by decide) (fun c1 => ?_) (fun c1 => ?_)
  · rw [if_pos c1] at h
    refine lv_iconst (v := -1) hx hb d_Co_entry_26 (by decide) ?_
    cases h
    subst hQ
    exact k_iret hx hb hr hlk hP hK hD hS d_Co_entry_27
  · rw [if_neg c1] at h
    refine lv_iload_n hx hb d_Co_entry_4 rfl (lv_at hl 2 rfl) ?_
    refine lv_aload_n hx hb d_Co_entry_5 rfl (lv_at hl 0 rfl) ?_
    refine rd_Co_units hx hb hts hown hK hP lk_36 (v := (ko_units ko)) rfl d_Co_entry_6 ?_
    refine lv_icmp_ge (tgt := 26) hx hb d_Co_entry_9 (by decide) (fun c2 => ?_) (fun c2 => ?_)
    · rw [if_pos c2] at h
      refine lv_iconst (v := -1) hx hb d_Co_entry_26 (by decide) ?_
      cases h
      subst hQ
      exact k_iret hx hb hr hlk hP hK hD hS d_Co_entry_27
    · rw [if_neg c2] at h
      refine lv_iload_n hx hb d_Co_entry_12 rfl (lv_at hl 3 rfl) ?_
      refine lv_if_lt (tgt := 26) hx hb d_Co_entry_13 (by decide) (fun c3 => ?_) (fun c3 => ?_)
      · rw [if_pos c3] at h
        refine lv_iconst (v := -1) hx hb d_Co_entry_26 (by decide) ?_
        cases h
        subst hQ
        exact k_iret hx hb hr hlk hP hK hD hS d_Co_entry_27
      · rw [if_neg c3] at h
        refine lv_iload_n hx hb d_Co_entry_16 rfl (lv_at hl 3 rfl) ?_
        refine lv_aload_n hx hb d_Co_entry_17 rfl (lv_at hl 0 rfl) ?_
        refine rd_Co_sizes hx hb hts hown hK hP lk_31 d_Co_entry_18 ?_
        refine lv_iload_n hx hb d_Co_entry_21 rfl (lv_at hl 2 rfl) ?_
        obtain ⟨hi4, v5, ev5, h⟩ := gr_some h
        refine ld_Co_sizes hx hb hK hP hi4 ev5 d_Co_entry_22 ?_
        refine lv_icmp_lt (tgt := 28) hx hb d_Co_entry_23 (by decide) (fun c6 => ?_) (fun c6 => ?_)
        · rw [if_pos c6] at h
          refine lv_aload_n hx hb d_Co_entry_28 rfl (lv_at hl 0 rfl) ?_
          refine rd_Co_firsts hx hb hts hown hK hP lk_30 d_Co_entry_29 ?_
          refine lv_iload_n hx hb d_Co_entry_32 rfl (lv_at hl 2 rfl) ?_
          obtain ⟨hi7, v8, ev8, h⟩ := gr_some h
          refine ld_Co_firsts hx hb hK hP hi7 ev8 d_Co_entry_33 ?_
          refine lv_iload_n hx hb d_Co_entry_34 rfl (lv_at hl 3 rfl) ?_
          refine lv_iadd hx hb d_Co_entry_35 ?_
          refine lv_istore (lv' := [(4, .int (v8 + a2)), (0, .ref (ad 1)), (1, .ref (ad 7)), (2, .int a1), (3, .int a2)]) hx hb d_Co_entry_36 hl (by decide) rfl (fun ls hl => ?_)
          refine lv_iload hx hb d_Co_entry_38 (lv_at hl 0 rfl) ?_
          refine lv_if_lt (tgt := 57) hx hb d_Co_entry_40 (by decide) (fun c9 => ?_) (fun c9 => ?_)
          · rw [if_pos c9] at h
            refine lv_iconst (v := -1) hx hb d_Co_entry_57 (by decide) ?_
            cases h
            subst hQ
            exact k_iret hx hb hr hlk hP hK hD hS d_Co_entry_58
          · rw [if_neg c9] at h
            refine lv_iload hx hb d_Co_entry_43 (lv_at hl 0 rfl) ?_
            refine lv_aload_n hx hb d_Co_entry_45 rfl (lv_at hl 2 rfl) ?_
            refine le_Co_as_ hx hb hK hP d_Co_entry_46 ?_
            refine lv_icmp_ge (tgt := 57) hx hb d_Co_entry_47 (by decide) (fun c10 => ?_) (fun c10 => ?_)
            · rw [if_pos c10] at h
              refine lv_iconst (v := -1) hx hb d_Co_entry_57 (by decide) ?_
              cases h
              subst hQ
              exact k_iret hx hb hr hlk hP hK hD hS d_Co_entry_58
            · rw [if_neg c10] at h
              refine lv_aload_n hx hb d_Co_entry_50 rfl (lv_at hl 2 rfl) ?_
              refine lv_iload hx hb d_Co_entry_51 (lv_at hl 0 rfl) ?_
              obtain ⟨hi11, v12, ev12, h⟩ := gr_some h
              refine ld_Co_as_ hx hb hK hP hi11 ev12 d_Co_entry_53 ?_
              refine lv_goto (tgt := 58) hx hb d_Co_entry_54 (by decide) ?_
              cases h
              subst hQ
              exact k_iret hx hb hr hlk hP hK hD hS d_Co_entry_58
        · rw [if_neg c6] at h
          refine lv_iconst (v := -1) hx hb d_Co_entry_26 (by decide) ?_
          cases h
          subst hQ
          exact k_iret hx hb hr hlk hP hK hD hS d_Co_entry_27
theorem d_Co_aAt_0 : decode b_Co_aAt 0 = .ok (.aload_n 0, 1) := by decide +kernel
theorem d_Co_aAt_1 : decode b_Co_aAt 1 = .ok (.aload_n 0, 1) := by decide +kernel
theorem d_Co_aAt_2 : decode b_Co_aAt 2 = .ok (.getfield 27, 3) := by decide +kernel
theorem d_Co_aAt_5 : decode b_Co_aAt 5 = .ok (.iload_n 1, 1) := by decide +kernel
theorem d_Co_aAt_6 : decode b_Co_aAt 6 = .ok (.iload_n 2, 1) := by decide +kernel
theorem d_Co_aAt_7 : decode b_Co_aAt 7 = .ok (.invokevirtual 54, 3) := by decide +kernel
theorem d_Co_aAt_10 : decode b_Co_aAt 10 = .ok (.ireturn, 1) := by decide +kernel
def r_Co_aAt (n : Nat) (ko : T_ko) (a0 : Int32) (a1 : Int32) : Option (Int32) := (r_Co_entry_as n ko a0 a1).bind (fun q1 => some (q1))
def rm_Co_aAt : Jvm.Room := { frames := 1, cells := 0, slots := 0, locals := 24 }
set_option maxHeartbeats 4000000 in
set_option maxRecDepth 100000 in
theorem c_Co_aAt {l : Launch} {D : va_G} {cI cL : ClassId} {ad : Nat → Nat} {ma : T_ma} {ko : T_ko} {sh : T_sh} {lo : T_lo} {de : T_de} {wa : T_wa} {me : T_me} {ru : T_ru} {ws0 : va_W} {sz n : Nat} {a0 : Int32} {a1 : Int32} {r9 : Int32} (hw : ws0 = (wX cI cL ad ma ko sh lo de wa me ru)) (h : r_Co_aAt n ko a0 a1 = some r9) : Met l y_Co_aAt (Cond.code y_Co_aAt b_Co_aAt 3 (some .int) :: TB) rm_Co_aAt (PreW D clX (tyX cI cL) ws0 [.ref (ad 1), .int a0, .int a1] sz) (PstI D clX (tyX cI cL) ws0 (wX cI cL ad ma ko sh lo de wa me ru) sz r9) 0 0 (va_A ws0 sz) := by
  refine k_met (by decide) (Nat.le_of_ble_eq_true rfl) ?_
  intro p e s m below meth c ls hx hb hr hml hts hown hlk hnm hsz hP hK hD hA hz hl
  have hP : va_P D clX (wX cI cL ad ma ko sh lo de wa me ru) s.heap := by rw [← hw]; exact hP
  have hD : va_D (va_A ws0 sz) (wX cI cL ad ma ko sh lo de wa me ru) := by rw [← hw]; exact hD
  have hS : va_S (va_A ws0 sz) s.heap s.heap [] := va_S.rf
  have hl : lv_has ls 3 [(0, .ref (ad 1)), (1, .int a0), (2, .int a1)] := hl
  generalize hQ : MQ below (PstI D clX (tyX cI cL) ws0 (wX cI cL ad ma ko sh lo de wa me ru) sz r9) [.ref (ad 1), .int a0, .int a1].toArray s 0 0 (va_A ws0 sz) = Q
  unfold r_Co_aAt at h
  refine lv_aload_n hx hb d_Co_aAt_0 rfl (lv_at hl 0 rfl) ?_
  refine lv_aload_n hx hb d_Co_aAt_1 rfl (lv_at hl 0 rfl) ?_
  refine rd_Co_as_ hx hb hts hown hK hP lk_33 d_Co_aAt_2 ?_
  refine lv_iload_n hx hb d_Co_aAt_5 rfl (lv_at hl 1 rfl) ?_
  refine lv_iload_n hx hb d_Co_aAt_6 rfl (lv_at hl 2 rfl) ?_
  obtain ⟨q1, hq1, h⟩ := Option.bind_eq_some_iff.mp h
  refine k_I (k_runV ⟨hx, hb, hml, hown, hts⟩ (c_Co_entry_as rfl hq1) ok_Co_entry is_Co_entry lk_367 rfl rfl ⟨by decide, by decide⟩ hP hK hD hS hA hz (ci := 1) (q0 := 1) rfl rfl ob_Co rfl hl.1 rfl (Nat.le_of_ble_eq_true rfl) d_Co_aAt_7 ⟨Nat.zero_le _, Nat.zero_le _⟩) hD hS hA (fun H locs hP hD hS => ?_)
  cases h
  subst hQ
  exact k_iret hx hb hr hlk hP hK hD hS d_Co_aAt_10
theorem d_Co_hasUnit_0 : decode b_Co_hasUnit 0 = .ok (.iload_n 1, 1) := by decide +kernel
theorem d_Co_hasUnit_1 : decode b_Co_hasUnit 1 = .ok (.ifCond .lt 15, 3) := by decide +kernel
theorem d_Co_hasUnit_4 : decode b_Co_hasUnit 4 = .ok (.iload_n 1, 1) := by decide +kernel
theorem d_Co_hasUnit_5 : decode b_Co_hasUnit 5 = .ok (.aload_n 0, 1) := by decide +kernel
theorem d_Co_hasUnit_6 : decode b_Co_hasUnit 6 = .ok (.getfield 36, 3) := by decide +kernel
theorem d_Co_hasUnit_9 : decode b_Co_hasUnit 9 = .ok (.if_icmp .ge 7, 3) := by decide +kernel
theorem d_Co_hasUnit_12 : decode b_Co_hasUnit 12 = .ok (.iconst 1, 1) := by decide +kernel
theorem d_Co_hasUnit_13 : decode b_Co_hasUnit 13 = .ok (.goto 4, 3) := by decide +kernel
theorem d_Co_hasUnit_16 : decode b_Co_hasUnit 16 = .ok (.iconst 0, 1) := by decide +kernel
theorem d_Co_hasUnit_17 : decode b_Co_hasUnit 17 = .ok (.ireturn, 1) := by decide +kernel
def r_Co_hasUnit (n : Nat) (ko : T_ko) (a0 : Int32) : Option (Int32) := if a0 < 0 then some ((0 : Int32)) else if (ko_units ko) ≤ a0 then some ((0 : Int32)) else some ((1 : Int32))
def rm_Co_hasUnit : Jvm.Room := { frames := 0, cells := 0, slots := 0, locals := 0 }
set_option maxHeartbeats 4000000 in
set_option maxRecDepth 100000 in
theorem c_Co_hasUnit {l : Launch} {D : va_G} {cI cL : ClassId} {ad : Nat → Nat} {ma : T_ma} {ko : T_ko} {sh : T_sh} {lo : T_lo} {de : T_de} {wa : T_wa} {me : T_me} {ru : T_ru} {ws0 : va_W} {sz n : Nat} {a0 : Int32} {r9 : Int32} (hw : ws0 = (wX cI cL ad ma ko sh lo de wa me ru)) (h : r_Co_hasUnit n ko a0 = some r9) : Met l y_Co_hasUnit (Cond.code y_Co_hasUnit b_Co_hasUnit 2 (some .boolean) :: TB) rm_Co_hasUnit (PreW D clX (tyX cI cL) ws0 [.ref (ad 1), .int a0] sz) (PstI D clX (tyX cI cL) ws0 (wX cI cL ad ma ko sh lo de wa me ru) sz r9) 0 0 (va_A ws0 sz) := by
  refine k_met (by decide) (Nat.le_of_ble_eq_true rfl) ?_
  intro p e s m below meth c ls hx hb hr hml hts hown hlk hnm hsz hP hK hD hA hz hl
  have hP : va_P D clX (wX cI cL ad ma ko sh lo de wa me ru) s.heap := by rw [← hw]; exact hP
  have hD : va_D (va_A ws0 sz) (wX cI cL ad ma ko sh lo de wa me ru) := by rw [← hw]; exact hD
  have hS : va_S (va_A ws0 sz) s.heap s.heap [] := va_S.rf
  have hl : lv_has ls 2 [(0, .ref (ad 1)), (1, .int a0)] := hl
  generalize hQ : MQ below (PstI D clX (tyX cI cL) ws0 (wX cI cL ad ma ko sh lo de wa me ru) sz r9) [.ref (ad 1), .int a0].toArray s 0 0 (va_A ws0 sz) = Q
  unfold r_Co_hasUnit at h
  refine lv_iload_n hx hb d_Co_hasUnit_0 rfl (lv_at hl 1 rfl) ?_
  refine lv_if_lt (tgt := 16) hx hb d_Co_hasUnit_1 (by decide) (fun c1 => ?_) (fun c1 => ?_)
  · rw [if_pos c1] at h
    refine lv_iconst (v := 0) hx hb d_Co_hasUnit_16 (by decide) ?_
    cases h
    subst hQ
    exact k_zret hx hb hr hlk (Or.inl rfl) hP hK hD hS d_Co_hasUnit_17
  · rw [if_neg c1] at h
    refine lv_iload_n hx hb d_Co_hasUnit_4 rfl (lv_at hl 1 rfl) ?_
    refine lv_aload_n hx hb d_Co_hasUnit_5 rfl (lv_at hl 0 rfl) ?_
    refine rd_Co_units hx hb hts hown hK hP lk_36 (v := (ko_units ko)) rfl d_Co_hasUnit_6 ?_
    refine lv_icmp_ge (tgt := 16) hx hb d_Co_hasUnit_9 (by decide) (fun c2 => ?_) (fun c2 => ?_)
    · rw [if_pos c2] at h
      refine lv_iconst (v := 0) hx hb d_Co_hasUnit_16 (by decide) ?_
      cases h
      subst hQ
      exact k_zret hx hb hr hlk (Or.inl rfl) hP hK hD hS d_Co_hasUnit_17
    · rw [if_neg c2] at h
      refine lv_iconst (v := 1) hx hb d_Co_hasUnit_12 (by decide) ?_
      refine lv_goto (tgt := 17) hx hb d_Co_hasUnit_13 (by decide) ?_
      cases h
      subst hQ
      exact k_zret hx hb hr hlk (Or.inr rfl) hP hK hD hS d_Co_hasUnit_17
theorem d_Co_sizeOf_0 : decode b_Co_sizeOf 0 = .ok (.aload_n 0, 1) := by decide +kernel
theorem d_Co_sizeOf_1 : decode b_Co_sizeOf 1 = .ok (.iload_n 1, 1) := by decide +kernel
theorem d_Co_sizeOf_2 : decode b_Co_sizeOf 2 = .ok (.invokevirtual 50, 3) := by decide +kernel
theorem d_Co_sizeOf_5 : decode b_Co_sizeOf 5 = .ok (.ifCond .eq 12, 3) := by decide +kernel
theorem d_Co_sizeOf_8 : decode b_Co_sizeOf 8 = .ok (.aload_n 0, 1) := by decide +kernel
theorem d_Co_sizeOf_9 : decode b_Co_sizeOf 9 = .ok (.getfield 21, 3) := by decide +kernel
theorem d_Co_sizeOf_12 : decode b_Co_sizeOf 12 = .ok (.iload_n 1, 1) := by decide +kernel
theorem d_Co_sizeOf_13 : decode b_Co_sizeOf 13 = .ok (.iaload, 1) := by decide +kernel
theorem d_Co_sizeOf_14 : decode b_Co_sizeOf 14 = .ok (.goto 4, 3) := by decide +kernel
theorem d_Co_sizeOf_17 : decode b_Co_sizeOf 17 = .ok (.iconst 0, 1) := by decide +kernel
theorem d_Co_sizeOf_18 : decode b_Co_sizeOf 18 = .ok (.ireturn, 1) := by decide +kernel
def r_Co_sizeOf (n : Nat) (ko : T_ko) (a0 : Int32) : Option (Int32) := (r_Co_hasUnit n ko a0).bind (fun q1 => if q1 = 0 then some ((0 : Int32)) else gr (ko_sizes ko) a0 16 (fun v4 => some (v4)))
def rm_Co_sizeOf : Jvm.Room := { frames := 1, cells := 0, slots := 0, locals := 21 }
set_option maxHeartbeats 4000000 in
set_option maxRecDepth 100000 in
theorem c_Co_sizeOf {l : Launch} {D : va_G} {cI cL : ClassId} {ad : Nat → Nat} {ma : T_ma} {ko : T_ko} {sh : T_sh} {lo : T_lo} {de : T_de} {wa : T_wa} {me : T_me} {ru : T_ru} {ws0 : va_W} {sz n : Nat} {a0 : Int32} {r9 : Int32} (hw : ws0 = (wX cI cL ad ma ko sh lo de wa me ru)) (h : r_Co_sizeOf n ko a0 = some r9) : Met l y_Co_sizeOf (Cond.code y_Co_sizeOf b_Co_sizeOf 2 (some .int) :: TB) rm_Co_sizeOf (PreW D clX (tyX cI cL) ws0 [.ref (ad 1), .int a0] sz) (PstI D clX (tyX cI cL) ws0 (wX cI cL ad ma ko sh lo de wa me ru) sz r9) 0 0 (va_A ws0 sz) := by
  refine k_met (by decide) (Nat.le_of_ble_eq_true rfl) ?_
  intro p e s m below meth c ls hx hb hr hml hts hown hlk hnm hsz hP hK hD hA hz hl
  have hP : va_P D clX (wX cI cL ad ma ko sh lo de wa me ru) s.heap := by rw [← hw]; exact hP
  have hD : va_D (va_A ws0 sz) (wX cI cL ad ma ko sh lo de wa me ru) := by rw [← hw]; exact hD
  have hS : va_S (va_A ws0 sz) s.heap s.heap [] := va_S.rf
  have hl : lv_has ls 2 [(0, .ref (ad 1)), (1, .int a0)] := hl
  generalize hQ : MQ below (PstI D clX (tyX cI cL) ws0 (wX cI cL ad ma ko sh lo de wa me ru) sz r9) [.ref (ad 1), .int a0].toArray s 0 0 (va_A ws0 sz) = Q
  unfold r_Co_sizeOf at h
  refine lv_aload_n hx hb d_Co_sizeOf_0 rfl (lv_at hl 0 rfl) ?_
  refine lv_iload_n hx hb d_Co_sizeOf_1 rfl (lv_at hl 1 rfl) ?_
  obtain ⟨q1, hq1, h⟩ := Option.bind_eq_some_iff.mp h
  refine k_I (k_runV ⟨hx, hb, hml, hown, hts⟩ (c_Co_hasUnit rfl hq1) ok_Co_hasUnit is_Co_hasUnit lk_336 rfl rfl ⟨by decide, by decide⟩ hP hK hD hS hA hz (ci := 1) (q0 := 1) rfl rfl ob_Co rfl hl.1 rfl (Nat.le_of_ble_eq_true rfl) d_Co_sizeOf_2 ⟨Nat.zero_le _, Nat.zero_le _⟩) hD hS hA (fun H locs hP hD hS => ?_)
  refine lv_if_eq (tgt := 17) hx hb d_Co_sizeOf_5 (by decide) (fun c2 => ?_) (fun c2 => ?_)
  · rw [if_pos c2] at h
    refine lv_iconst (v := 0) hx hb d_Co_sizeOf_17 (by decide) ?_
    cases h
    subst hQ
    exact k_iret hx hb hr hlk hP hK hD hS d_Co_sizeOf_18
  · rw [if_neg c2] at h
    refine lv_aload_n hx hb d_Co_sizeOf_8 rfl (lv_at hl 0 rfl) ?_
    refine rd_Co_sizes hx hb hts hown hK hP lk_31 d_Co_sizeOf_9 ?_
    refine lv_iload_n hx hb d_Co_sizeOf_12 rfl (lv_at hl 1 rfl) ?_
    obtain ⟨hi3, v4, ev4, h⟩ := gr_some h
    refine ld_Co_sizes hx hb hK hP hi3 ev4 d_Co_sizeOf_13 ?_
    refine lv_goto (tgt := 18) hx hb d_Co_sizeOf_14 (by decide) ?_
    cases h
    subst hQ
    exact k_iret hx hb hr hlk hP hK hD hS d_Co_sizeOf_18
theorem d_Co_frameOf_0 : decode b_Co_frameOf 0 = .ok (.aload_n 0, 1) := by decide +kernel
theorem d_Co_frameOf_1 : decode b_Co_frameOf 1 = .ok (.iload_n 1, 1) := by decide +kernel
theorem d_Co_frameOf_2 : decode b_Co_frameOf 2 = .ok (.invokevirtual 50, 3) := by decide +kernel
theorem d_Co_frameOf_5 : decode b_Co_frameOf 5 = .ok (.ifCond .eq 12, 3) := by decide +kernel
theorem d_Co_frameOf_8 : decode b_Co_frameOf 8 = .ok (.aload_n 0, 1) := by decide +kernel
theorem d_Co_frameOf_9 : decode b_Co_frameOf 9 = .ok (.getfield 9, 3) := by decide +kernel
theorem d_Co_frameOf_12 : decode b_Co_frameOf 12 = .ok (.iload_n 1, 1) := by decide +kernel
theorem d_Co_frameOf_13 : decode b_Co_frameOf 13 = .ok (.iaload, 1) := by decide +kernel
theorem d_Co_frameOf_14 : decode b_Co_frameOf 14 = .ok (.goto 4, 3) := by decide +kernel
theorem d_Co_frameOf_17 : decode b_Co_frameOf 17 = .ok (.iconst 0, 1) := by decide +kernel
theorem d_Co_frameOf_18 : decode b_Co_frameOf 18 = .ok (.ireturn, 1) := by decide +kernel
def r_Co_frameOf (n : Nat) (ko : T_ko) (a0 : Int32) : Option (Int32) := (r_Co_hasUnit n ko a0).bind (fun q1 => if q1 = 0 then some ((0 : Int32)) else gr (ko_frames ko) a0 16 (fun v4 => some (v4)))
def rm_Co_frameOf : Jvm.Room := { frames := 1, cells := 0, slots := 0, locals := 21 }
set_option maxHeartbeats 4000000 in
set_option maxRecDepth 100000 in
theorem c_Co_frameOf {l : Launch} {D : va_G} {cI cL : ClassId} {ad : Nat → Nat} {ma : T_ma} {ko : T_ko} {sh : T_sh} {lo : T_lo} {de : T_de} {wa : T_wa} {me : T_me} {ru : T_ru} {ws0 : va_W} {sz n : Nat} {a0 : Int32} {r9 : Int32} (hw : ws0 = (wX cI cL ad ma ko sh lo de wa me ru)) (h : r_Co_frameOf n ko a0 = some r9) : Met l y_Co_frameOf (Cond.code y_Co_frameOf b_Co_frameOf 2 (some .int) :: TB) rm_Co_frameOf (PreW D clX (tyX cI cL) ws0 [.ref (ad 1), .int a0] sz) (PstI D clX (tyX cI cL) ws0 (wX cI cL ad ma ko sh lo de wa me ru) sz r9) 0 0 (va_A ws0 sz) := by
  refine k_met (by decide) (Nat.le_of_ble_eq_true rfl) ?_
  intro p e s m below meth c ls hx hb hr hml hts hown hlk hnm hsz hP hK hD hA hz hl
  have hP : va_P D clX (wX cI cL ad ma ko sh lo de wa me ru) s.heap := by rw [← hw]; exact hP
  have hD : va_D (va_A ws0 sz) (wX cI cL ad ma ko sh lo de wa me ru) := by rw [← hw]; exact hD
  have hS : va_S (va_A ws0 sz) s.heap s.heap [] := va_S.rf
  have hl : lv_has ls 2 [(0, .ref (ad 1)), (1, .int a0)] := hl
  generalize hQ : MQ below (PstI D clX (tyX cI cL) ws0 (wX cI cL ad ma ko sh lo de wa me ru) sz r9) [.ref (ad 1), .int a0].toArray s 0 0 (va_A ws0 sz) = Q
  unfold r_Co_frameOf at h
  refine lv_aload_n hx hb d_Co_frameOf_0 rfl (lv_at hl 0 rfl) ?_
  refine lv_iload_n hx hb d_Co_frameOf_1 rfl (lv_at hl 1 rfl) ?_
  obtain ⟨q1, hq1, h⟩ := Option.bind_eq_some_iff.mp h
  refine k_I (k_runV ⟨hx, hb, hml, hown, hts⟩ (c_Co_hasUnit rfl hq1) ok_Co_hasUnit is_Co_hasUnit lk_336 rfl rfl ⟨by decide, by decide⟩ hP hK hD hS hA hz (ci := 1) (q0 := 1) rfl rfl ob_Co rfl hl.1 rfl (Nat.le_of_ble_eq_true rfl) d_Co_frameOf_2 ⟨Nat.zero_le _, Nat.zero_le _⟩) hD hS hA (fun H locs hP hD hS => ?_)
  refine lv_if_eq (tgt := 17) hx hb d_Co_frameOf_5 (by decide) (fun c2 => ?_) (fun c2 => ?_)
  · rw [if_pos c2] at h
    refine lv_iconst (v := 0) hx hb d_Co_frameOf_17 (by decide) ?_
    cases h
    subst hQ
    exact k_iret hx hb hr hlk hP hK hD hS d_Co_frameOf_18
  · rw [if_neg c2] at h
    refine lv_aload_n hx hb d_Co_frameOf_8 rfl (lv_at hl 0 rfl) ?_
    refine rd_Co_frames hx hb hts hown hK hP lk_28 d_Co_frameOf_9 ?_
    refine lv_iload_n hx hb d_Co_frameOf_12 rfl (lv_at hl 1 rfl) ?_
    obtain ⟨hi3, v4, ev4, h⟩ := gr_some h
    refine ld_Co_frames hx hb hK hP hi3 ev4 d_Co_frameOf_13 ?_
    refine lv_goto (tgt := 18) hx hb d_Co_frameOf_14 (by decide) ?_
    cases h
    subst hQ
    exact k_iret hx hb hr hlk hP hK hD hS d_Co_frameOf_18
theorem d_Co_placeOf_0 : decode b_Co_placeOf 0 = .ok (.aload_n 0, 1) := by decide +kernel
theorem d_Co_placeOf_1 : decode b_Co_placeOf 1 = .ok (.iload_n 1, 1) := by decide +kernel
theorem d_Co_placeOf_2 : decode b_Co_placeOf 2 = .ok (.invokevirtual 50, 3) := by decide +kernel
theorem d_Co_placeOf_5 : decode b_Co_placeOf 5 = .ok (.ifCond .eq 12, 3) := by decide +kernel
theorem d_Co_placeOf_8 : decode b_Co_placeOf 8 = .ok (.aload_n 0, 1) := by decide +kernel
theorem d_Co_placeOf_9 : decode b_Co_placeOf 9 = .ok (.getfield 15, 3) := by decide +kernel
theorem d_Co_placeOf_12 : decode b_Co_placeOf 12 = .ok (.iload_n 1, 1) := by decide +kernel
theorem d_Co_placeOf_13 : decode b_Co_placeOf 13 = .ok (.iaload, 1) := by decide +kernel
theorem d_Co_placeOf_14 : decode b_Co_placeOf 14 = .ok (.goto 4, 3) := by decide +kernel
theorem d_Co_placeOf_17 : decode b_Co_placeOf 17 = .ok (.iconst (-1), 1) := by decide +kernel
theorem d_Co_placeOf_18 : decode b_Co_placeOf 18 = .ok (.ireturn, 1) := by decide +kernel
def r_Co_placeOf (n : Nat) (ko : T_ko) (a0 : Int32) : Option (Int32) := (r_Co_hasUnit n ko a0).bind (fun q1 => if q1 = 0 then some ((-1 : Int32)) else gr (ko_places ko) a0 16 (fun v4 => some (v4)))
def rm_Co_placeOf : Jvm.Room := { frames := 1, cells := 0, slots := 0, locals := 21 }
set_option maxHeartbeats 4000000 in
set_option maxRecDepth 100000 in
theorem c_Co_placeOf {l : Launch} {D : va_G} {cI cL : ClassId} {ad : Nat → Nat} {ma : T_ma} {ko : T_ko} {sh : T_sh} {lo : T_lo} {de : T_de} {wa : T_wa} {me : T_me} {ru : T_ru} {ws0 : va_W} {sz n : Nat} {a0 : Int32} {r9 : Int32} (hw : ws0 = (wX cI cL ad ma ko sh lo de wa me ru)) (h : r_Co_placeOf n ko a0 = some r9) : Met l y_Co_placeOf (Cond.code y_Co_placeOf b_Co_placeOf 2 (some .int) :: TB) rm_Co_placeOf (PreW D clX (tyX cI cL) ws0 [.ref (ad 1), .int a0] sz) (PstI D clX (tyX cI cL) ws0 (wX cI cL ad ma ko sh lo de wa me ru) sz r9) 0 0 (va_A ws0 sz) := by
  refine k_met (by decide) (Nat.le_of_ble_eq_true rfl) ?_
  intro p e s m below meth c ls hx hb hr hml hts hown hlk hnm hsz hP hK hD hA hz hl
  have hP : va_P D clX (wX cI cL ad ma ko sh lo de wa me ru) s.heap := by rw [← hw]; exact hP
  have hD : va_D (va_A ws0 sz) (wX cI cL ad ma ko sh lo de wa me ru) := by rw [← hw]; exact hD
  have hS : va_S (va_A ws0 sz) s.heap s.heap [] := va_S.rf
  have hl : lv_has ls 2 [(0, .ref (ad 1)), (1, .int a0)] := hl
  generalize hQ : MQ below (PstI D clX (tyX cI cL) ws0 (wX cI cL ad ma ko sh lo de wa me ru) sz r9) [.ref (ad 1), .int a0].toArray s 0 0 (va_A ws0 sz) = Q
  unfold r_Co_placeOf at h
  refine lv_aload_n hx hb d_Co_placeOf_0 rfl (lv_at hl 0 rfl) ?_
  refine lv_iload_n hx hb d_Co_placeOf_1 rfl (lv_at hl 1 rfl) ?_
  obtain ⟨q1, hq1, h⟩ := Option.bind_eq_some_iff.mp h
  refine k_I (k_runV ⟨hx, hb, hml, hown, hts⟩ (c_Co_hasUnit rfl hq1) ok_Co_hasUnit is_Co_hasUnit lk_336 rfl rfl ⟨by decide, by decide⟩ hP hK hD hS hA hz (ci := 1) (q0 := 1) rfl rfl ob_Co rfl hl.1 rfl (Nat.le_of_ble_eq_true rfl) d_Co_placeOf_2 ⟨Nat.zero_le _, Nat.zero_le _⟩) hD hS hA (fun H locs hP hD hS => ?_)
  refine lv_if_eq (tgt := 17) hx hb d_Co_placeOf_5 (by decide) (fun c2 => ?_) (fun c2 => ?_)
  · rw [if_pos c2] at h
    refine lv_iconst (v := -1) hx hb d_Co_placeOf_17 (by decide) ?_
    cases h
    subst hQ
    exact k_iret hx hb hr hlk hP hK hD hS d_Co_placeOf_18
  · rw [if_neg c2] at h
    refine lv_aload_n hx hb d_Co_placeOf_8 rfl (lv_at hl 0 rfl) ?_
    refine rd_Co_places hx hb hts hown hK hP lk_29 d_Co_placeOf_9 ?_
    refine lv_iload_n hx hb d_Co_placeOf_12 rfl (lv_at hl 1 rfl) ?_
    obtain ⟨hi3, v4, ev4, h⟩ := gr_some h
    refine ld_Co_places hx hb hK hP hi3 ev4 d_Co_placeOf_13 ?_
    refine lv_goto (tgt := 18) hx hb d_Co_placeOf_14 (by decide) ?_
    cases h
    subst hQ
    exact k_iret hx hb hr hlk hP hK hD hS d_Co_placeOf_18
def r_Co_entry_cs (n : Nat) (ko : T_ko) (a1 : Int32) (a2 : Int32) : Option (Int32) := if a1 < 0 then some ((-1 : Int32)) else if (ko_units ko) ≤ a1 then some ((-1 : Int32)) else if a2 < 0 then some ((-1 : Int32)) else gr (ko_sizes ko) a1 16 (fun v5 => if a2 < v5 then gr (ko_firsts ko) a1 16 (fun v8 => if (v8 + a2) < 0 then some ((-1 : Int32)) else if (256 : Int32) ≤ (v8 + a2) then some ((-1 : Int32)) else gr (ko_cs ko) (v8 + a2) 256 (fun v12 => some (v12))) else some ((-1 : Int32)))
def rm_Co_entry_cs : Jvm.Room := { frames := 0, cells := 0, slots := 0, locals := 0 }
set_option maxHeartbeats 4000000 in
set_option maxRecDepth 100000 in
theorem c_Co_entry_cs {l : Launch} {D : va_G} {cI cL : ClassId} {ad : Nat → Nat} {ma : T_ma} {ko : T_ko} {sh : T_sh} {lo : T_lo} {de : T_de} {wa : T_wa} {me : T_me} {ru : T_ru} {ws0 : va_W} {sz n : Nat} {a1 : Int32} {a2 : Int32} {r9 : Int32} (hw : ws0 = (wX cI cL ad ma ko sh lo de wa me ru)) (h : r_Co_entry_cs n ko a1 a2 = some r9) : Met l y_Co_entry (Cond.code y_Co_entry b_Co_entry 5 (some .int) :: TB) rm_Co_entry_cs (PreW D clX (tyX cI cL) ws0 [.ref (ad 1), .ref (ad 9), .int a1, .int a2] sz) (PstI D clX (tyX cI cL) ws0 (wX cI cL ad ma ko sh lo de wa me ru) sz r9) 0 0 (va_A ws0 sz) := by
  refine k_met (by decide) (Nat.le_of_ble_eq_true rfl) ?_
  intro p e s m below meth c ls hx hb hr hml hts hown hlk hnm hsz hP hK hD hA hz hl
  have hP : va_P D clX (wX cI cL ad ma ko sh lo de wa me ru) s.heap := by rw [← hw]; exact hP
  have hD : va_D (va_A ws0 sz) (wX cI cL ad ma ko sh lo de wa me ru) := by rw [← hw]; exact hD
  have hS : va_S (va_A ws0 sz) s.heap s.heap [] := va_S.rf
  have hl : lv_has ls 5 [(0, .ref (ad 1)), (1, .ref (ad 9)), (2, .int a1), (3, .int a2)] := hl
  generalize hQ : MQ below (PstI D clX (tyX cI cL) ws0 (wX cI cL ad ma ko sh lo de wa me ru) sz r9) [.ref (ad 1), .ref (ad 9), .int a1, .int a2].toArray s 0 0 (va_A ws0 sz) = Q
  unfold r_Co_entry_cs at h
  refine lv_iload_n hx hb d_Co_entry_0 rfl (lv_at hl 2 rfl) ?_
  refine lv_if_lt (tgt := 26) hx hb d_Co_entry_1 (by decide) (fun c1 => ?_) (fun c1 => ?_)
  · rw [if_pos c1] at h
    refine lv_iconst (v := -1) hx hb d_Co_entry_26 (by decide) ?_
    cases h
    subst hQ
    exact k_iret hx hb hr hlk hP hK hD hS d_Co_entry_27
  · rw [if_neg c1] at h
    refine lv_iload_n hx hb d_Co_entry_4 rfl (lv_at hl 2 rfl) ?_
    refine lv_aload_n hx hb d_Co_entry_5 rfl (lv_at hl 0 rfl) ?_
    refine rd_Co_units hx hb hts hown hK hP lk_36 (v := (ko_units ko)) rfl d_Co_entry_6 ?_
    refine lv_icmp_ge (tgt := 26) hx hb d_Co_entry_9 (by decide) (fun c2 => ?_) (fun c2 => ?_)
    · rw [if_pos c2] at h
      refine lv_iconst (v := -1) hx hb d_Co_entry_26 (by decide) ?_
      cases h
      subst hQ
      exact k_iret hx hb hr hlk hP hK hD hS d_Co_entry_27
    · rw [if_neg c2] at h
      refine lv_iload_n hx hb d_Co_entry_12 rfl (lv_at hl 3 rfl) ?_
      refine lv_if_lt (tgt := 26) hx hb d_Co_entry_13 (by decide) (fun c3 => ?_) (fun c3 => ?_)
      · rw [if_pos c3] at h
        refine lv_iconst (v := -1) hx hb d_Co_entry_26 (by decide) ?_
        cases h
        subst hQ
        exact k_iret hx hb hr hlk hP hK hD hS d_Co_entry_27
      · rw [if_neg c3] at h
        refine lv_iload_n hx hb d_Co_entry_16 rfl (lv_at hl 3 rfl) ?_
        refine lv_aload_n hx hb d_Co_entry_17 rfl (lv_at hl 0 rfl) ?_
        refine rd_Co_sizes hx hb hts hown hK hP lk_31 d_Co_entry_18 ?_
        refine lv_iload_n hx hb d_Co_entry_21 rfl (lv_at hl 2 rfl) ?_
        obtain ⟨hi4, v5, ev5, h⟩ := gr_some h
        refine ld_Co_sizes hx hb hK hP hi4 ev5 d_Co_entry_22 ?_
        refine lv_icmp_lt (tgt := 28) hx hb d_Co_entry_23 (by decide) (fun c6 => ?_) (fun c6 => ?_)
        · rw [if_pos c6] at h
          refine lv_aload_n hx hb d_Co_entry_28 rfl (lv_at hl 0 rfl) ?_
          refine rd_Co_firsts hx hb hts hown hK hP lk_30 d_Co_entry_29 ?_
          refine lv_iload_n hx hb d_Co_entry_32 rfl (lv_at hl 2 rfl) ?_
          obtain ⟨hi7, v8, ev8, h⟩ := gr_some h
          refine ld_Co_firsts hx hb hK hP hi7 ev8 d_Co_entry_33 ?_
          refine lv_iload_n hx hb d_Co_entry_34 rfl (lv_at hl 3 rfl) ?_
          refine lv_iadd hx hb d_Co_entry_35 ?_
          refine lv_istore (lv' := [(4, .int (v8 + a2)), (0, .ref (ad 1)), (1, .ref (ad 9)), (2, .int a1), (3, .int a2)]) hx hb d_Co_entry_36 hl (by decide) rfl (fun ls hl => ?_)
          refine lv_iload hx hb d_Co_entry_38 (lv_at hl 0 rfl) ?_
          refine lv_if_lt (tgt := 57) hx hb d_Co_entry_40 (by decide) (fun c9 => ?_) (fun c9 => ?_)
          · rw [if_pos c9] at h
            refine lv_iconst (v := -1) hx hb d_Co_entry_57 (by decide) ?_
            cases h
            subst hQ
            exact k_iret hx hb hr hlk hP hK hD hS d_Co_entry_58
          · rw [if_neg c9] at h
            refine lv_iload hx hb d_Co_entry_43 (lv_at hl 0 rfl) ?_
            refine lv_aload_n hx hb d_Co_entry_45 rfl (lv_at hl 2 rfl) ?_
            refine le_Co_cs hx hb hK hP d_Co_entry_46 ?_
            refine lv_icmp_ge (tgt := 57) hx hb d_Co_entry_47 (by decide) (fun c10 => ?_) (fun c10 => ?_)
            · rw [if_pos c10] at h
              refine lv_iconst (v := -1) hx hb d_Co_entry_57 (by decide) ?_
              cases h
              subst hQ
              exact k_iret hx hb hr hlk hP hK hD hS d_Co_entry_58
            · rw [if_neg c10] at h
              refine lv_aload_n hx hb d_Co_entry_50 rfl (lv_at hl 2 rfl) ?_
              refine lv_iload hx hb d_Co_entry_51 (lv_at hl 0 rfl) ?_
              obtain ⟨hi11, v12, ev12, h⟩ := gr_some h
              refine ld_Co_cs hx hb hK hP hi11 ev12 d_Co_entry_53 ?_
              refine lv_goto (tgt := 58) hx hb d_Co_entry_54 (by decide) ?_
              cases h
              subst hQ
              exact k_iret hx hb hr hlk hP hK hD hS d_Co_entry_58
        · rw [if_neg c6] at h
          refine lv_iconst (v := -1) hx hb d_Co_entry_26 (by decide) ?_
          cases h
          subst hQ
          exact k_iret hx hb hr hlk hP hK hD hS d_Co_entry_27
theorem d_Co_cAt_0 : decode b_Co_cAt 0 = .ok (.aload_n 0, 1) := by decide +kernel
theorem d_Co_cAt_1 : decode b_Co_cAt 1 = .ok (.aload_n 0, 1) := by decide +kernel
theorem d_Co_cAt_2 : decode b_Co_cAt 2 = .ok (.getfield 33, 3) := by decide +kernel
theorem d_Co_cAt_5 : decode b_Co_cAt 5 = .ok (.iload_n 1, 1) := by decide +kernel
theorem d_Co_cAt_6 : decode b_Co_cAt 6 = .ok (.iload_n 2, 1) := by decide +kernel
theorem d_Co_cAt_7 : decode b_Co_cAt 7 = .ok (.invokevirtual 54, 3) := by decide +kernel
theorem d_Co_cAt_10 : decode b_Co_cAt 10 = .ok (.ireturn, 1) := by decide +kernel
def r_Co_cAt (n : Nat) (ko : T_ko) (a0 : Int32) (a1 : Int32) : Option (Int32) := (r_Co_entry_cs n ko a0 a1).bind (fun q1 => some (q1))
def rm_Co_cAt : Jvm.Room := { frames := 1, cells := 0, slots := 0, locals := 24 }
set_option maxHeartbeats 4000000 in
set_option maxRecDepth 100000 in
theorem c_Co_cAt {l : Launch} {D : va_G} {cI cL : ClassId} {ad : Nat → Nat} {ma : T_ma} {ko : T_ko} {sh : T_sh} {lo : T_lo} {de : T_de} {wa : T_wa} {me : T_me} {ru : T_ru} {ws0 : va_W} {sz n : Nat} {a0 : Int32} {a1 : Int32} {r9 : Int32} (hw : ws0 = (wX cI cL ad ma ko sh lo de wa me ru)) (h : r_Co_cAt n ko a0 a1 = some r9) : Met l y_Co_cAt (Cond.code y_Co_cAt b_Co_cAt 3 (some .int) :: TB) rm_Co_cAt (PreW D clX (tyX cI cL) ws0 [.ref (ad 1), .int a0, .int a1] sz) (PstI D clX (tyX cI cL) ws0 (wX cI cL ad ma ko sh lo de wa me ru) sz r9) 0 0 (va_A ws0 sz) := by
  refine k_met (by decide) (Nat.le_of_ble_eq_true rfl) ?_
  intro p e s m below meth c ls hx hb hr hml hts hown hlk hnm hsz hP hK hD hA hz hl
  have hP : va_P D clX (wX cI cL ad ma ko sh lo de wa me ru) s.heap := by rw [← hw]; exact hP
  have hD : va_D (va_A ws0 sz) (wX cI cL ad ma ko sh lo de wa me ru) := by rw [← hw]; exact hD
  have hS : va_S (va_A ws0 sz) s.heap s.heap [] := va_S.rf
  have hl : lv_has ls 3 [(0, .ref (ad 1)), (1, .int a0), (2, .int a1)] := hl
  generalize hQ : MQ below (PstI D clX (tyX cI cL) ws0 (wX cI cL ad ma ko sh lo de wa me ru) sz r9) [.ref (ad 1), .int a0, .int a1].toArray s 0 0 (va_A ws0 sz) = Q
  unfold r_Co_cAt at h
  refine lv_aload_n hx hb d_Co_cAt_0 rfl (lv_at hl 0 rfl) ?_
  refine lv_aload_n hx hb d_Co_cAt_1 rfl (lv_at hl 0 rfl) ?_
  refine rd_Co_cs hx hb hts hown hK hP lk_35 d_Co_cAt_2 ?_
  refine lv_iload_n hx hb d_Co_cAt_5 rfl (lv_at hl 1 rfl) ?_
  refine lv_iload_n hx hb d_Co_cAt_6 rfl (lv_at hl 2 rfl) ?_
  obtain ⟨q1, hq1, h⟩ := Option.bind_eq_some_iff.mp h
  refine k_I (k_runV ⟨hx, hb, hml, hown, hts⟩ (c_Co_entry_cs rfl hq1) ok_Co_entry is_Co_entry lk_367 rfl rfl ⟨by decide, by decide⟩ hP hK hD hS hA hz (ci := 1) (q0 := 1) rfl rfl ob_Co rfl hl.1 rfl (Nat.le_of_ble_eq_true rfl) d_Co_cAt_7 ⟨Nat.zero_le _, Nat.zero_le _⟩) hD hS hA (fun H locs hP hD hS => ?_)
  cases h
  subst hQ
  exact k_iret hx hb hr hlk hP hK hD hS d_Co_cAt_10
theorem d_Co_unitCount_0 : decode b_Co_unitCount 0 = .ok (.aload_n 0, 1) := by decide +kernel
theorem d_Co_unitCount_1 : decode b_Co_unitCount 1 = .ok (.getfield 36, 3) := by decide +kernel
theorem d_Co_unitCount_4 : decode b_Co_unitCount 4 = .ok (.ireturn, 1) := by decide +kernel
def r_Co_unitCount (n : Nat) (ko : T_ko)  : Option (Int32) := some ((ko_units ko))
def rm_Co_unitCount : Jvm.Room := { frames := 0, cells := 0, slots := 0, locals := 0 }
set_option maxHeartbeats 4000000 in
set_option maxRecDepth 100000 in
theorem c_Co_unitCount {l : Launch} {D : va_G} {cI cL : ClassId} {ad : Nat → Nat} {ma : T_ma} {ko : T_ko} {sh : T_sh} {lo : T_lo} {de : T_de} {wa : T_wa} {me : T_me} {ru : T_ru} {ws0 : va_W} {sz n : Nat}  {r9 : Int32} (hw : ws0 = (wX cI cL ad ma ko sh lo de wa me ru)) (h : r_Co_unitCount n ko  = some r9) : Met l y_Co_unitCount (Cond.code y_Co_unitCount b_Co_unitCount 1 (some .int) :: TB) rm_Co_unitCount (PreW D clX (tyX cI cL) ws0 [.ref (ad 1)] sz) (PstI D clX (tyX cI cL) ws0 (wX cI cL ad ma ko sh lo de wa me ru) sz r9) 0 0 (va_A ws0 sz) := by
  refine k_met (by decide) (Nat.le_of_ble_eq_true rfl) ?_
  intro p e s m below meth c ls hx hb hr hml hts hown hlk hnm hsz hP hK hD hA hz hl
  have hP : va_P D clX (wX cI cL ad ma ko sh lo de wa me ru) s.heap := by rw [← hw]; exact hP
  have hD : va_D (va_A ws0 sz) (wX cI cL ad ma ko sh lo de wa me ru) := by rw [← hw]; exact hD
  have hS : va_S (va_A ws0 sz) s.heap s.heap [] := va_S.rf
  have hl : lv_has ls 1 [(0, .ref (ad 1))] := hl
  generalize hQ : MQ below (PstI D clX (tyX cI cL) ws0 (wX cI cL ad ma ko sh lo de wa me ru) sz r9) [.ref (ad 1)].toArray s 0 0 (va_A ws0 sz) = Q
  unfold r_Co_unitCount at h
  refine lv_aload_n hx hb d_Co_unitCount_0 rfl (lv_at hl 0 rfl) ?_
  refine rd_Co_units hx hb hts hown hK hP lk_36 (v := (ko_units ko)) rfl d_Co_unitCount_1 ?_
  cases h
  subst hQ
  exact k_iret hx hb hr hlk hP hK hD hS d_Co_unitCount_4
theorem d_Co_hasRoomForInstruction_0 : decode b_Co_hasRoomForInstruction 0 = .ok (.aload_n 0, 1) := by decide +kernel
theorem d_Co_hasRoomForInstruction_1 : decode b_Co_hasRoomForInstruction 1 = .ok (.getfield 36, 3) := by decide +kernel
theorem d_Co_hasRoomForInstruction_4 : decode b_Co_hasRoomForInstruction 4 = .ok (.ifCond .le 26, 3) := by decide +kernel
theorem d_Co_hasRoomForInstruction_7 : decode b_Co_hasRoomForInstruction 7 = .ok (.aload_n 0, 1) := by decide +kernel
theorem d_Co_hasRoomForInstruction_8 : decode b_Co_hasRoomForInstruction 8 = .ok (.getfield 36, 3) := by decide +kernel
theorem d_Co_hasRoomForInstruction_11 : decode b_Co_hasRoomForInstruction 11 = .ok (.bipush 16, 2) := by decide +kernel
theorem d_Co_hasRoomForInstruction_13 : decode b_Co_hasRoomForInstruction 13 = .ok (.if_icmp .gt 17, 3) := by decide +kernel
theorem d_Co_hasRoomForInstruction_16 : decode b_Co_hasRoomForInstruction 16 = .ok (.aload_n 0, 1) := by decide +kernel
theorem d_Co_hasRoomForInstruction_17 : decode b_Co_hasRoomForInstruction 17 = .ok (.getfield 40, 3) := by decide +kernel
theorem d_Co_hasRoomForInstruction_20 : decode b_Co_hasRoomForInstruction 20 = .ok (.sipush 256, 3) := by decide +kernel
theorem d_Co_hasRoomForInstruction_23 : decode b_Co_hasRoomForInstruction 23 = .ok (.if_icmp .ge 7, 3) := by decide +kernel
theorem d_Co_hasRoomForInstruction_26 : decode b_Co_hasRoomForInstruction 26 = .ok (.iconst 1, 1) := by decide +kernel
theorem d_Co_hasRoomForInstruction_27 : decode b_Co_hasRoomForInstruction 27 = .ok (.goto 4, 3) := by decide +kernel
theorem d_Co_hasRoomForInstruction_30 : decode b_Co_hasRoomForInstruction 30 = .ok (.iconst 0, 1) := by decide +kernel
theorem d_Co_hasRoomForInstruction_31 : decode b_Co_hasRoomForInstruction 31 = .ok (.ireturn, 1) := by decide +kernel
def r_Co_hasRoomForInstruction (n : Nat) (ko : T_ko)  : Option (Int32) := if (ko_units ko) ≤ 0 then some ((0 : Int32)) else if (16 : Int32) < (ko_units ko) then some ((0 : Int32)) else if (256 : Int32) ≤ (ko_length ko) then some ((0 : Int32)) else some ((1 : Int32))
def rm_Co_hasRoomForInstruction : Jvm.Room := { frames := 0, cells := 0, slots := 0, locals := 0 }
set_option maxHeartbeats 4000000 in
set_option maxRecDepth 100000 in
theorem c_Co_hasRoomForInstruction {l : Launch} {D : va_G} {cI cL : ClassId} {ad : Nat → Nat} {ma : T_ma} {ko : T_ko} {sh : T_sh} {lo : T_lo} {de : T_de} {wa : T_wa} {me : T_me} {ru : T_ru} {ws0 : va_W} {sz n : Nat}  {r9 : Int32} (hw : ws0 = (wX cI cL ad ma ko sh lo de wa me ru)) (h : r_Co_hasRoomForInstruction n ko  = some r9) : Met l y_Co_hasRoomForInstruction (Cond.code y_Co_hasRoomForInstruction b_Co_hasRoomForInstruction 1 (some .boolean) :: TB) rm_Co_hasRoomForInstruction (PreW D clX (tyX cI cL) ws0 [.ref (ad 1)] sz) (PstI D clX (tyX cI cL) ws0 (wX cI cL ad ma ko sh lo de wa me ru) sz r9) 0 0 (va_A ws0 sz) := by
  refine k_met (by decide) (Nat.le_of_ble_eq_true rfl) ?_
  intro p e s m below meth c ls hx hb hr hml hts hown hlk hnm hsz hP hK hD hA hz hl
  have hP : va_P D clX (wX cI cL ad ma ko sh lo de wa me ru) s.heap := by rw [← hw]; exact hP
  have hD : va_D (va_A ws0 sz) (wX cI cL ad ma ko sh lo de wa me ru) := by rw [← hw]; exact hD
  have hS : va_S (va_A ws0 sz) s.heap s.heap [] := va_S.rf
  have hl : lv_has ls 1 [(0, .ref (ad 1))] := hl
  generalize hQ : MQ below (PstI D clX (tyX cI cL) ws0 (wX cI cL ad ma ko sh lo de wa me ru) sz r9) [.ref (ad 1)].toArray s 0 0 (va_A ws0 sz) = Q
  unfold r_Co_hasRoomForInstruction at h
  refine lv_aload_n hx hb d_Co_hasRoomForInstruction_0 rfl (lv_at hl 0 rfl) ?_
  refine rd_Co_units hx hb hts hown hK hP lk_36 (v := (ko_units ko)) rfl d_Co_hasRoomForInstruction_1 ?_
  refine lv_if_le (tgt := 30) hx hb d_Co_hasRoomForInstruction_4 (by decide) (fun c1 => ?_) (fun c1 => ?_)
  · rw [if_pos c1] at h
    refine lv_iconst (v := 0) hx hb d_Co_hasRoomForInstruction_30 (by decide) ?_
    cases h
    subst hQ
    exact k_zret hx hb hr hlk (Or.inl rfl) hP hK hD hS d_Co_hasRoomForInstruction_31
  · rw [if_neg c1] at h
    refine lv_aload_n hx hb d_Co_hasRoomForInstruction_7 rfl (lv_at hl 0 rfl) ?_
    refine rd_Co_units hx hb hts hown hK hP lk_36 (v := (ko_units ko)) rfl d_Co_hasRoomForInstruction_8 ?_
    refine lv_bipush (v := 16) hx hb d_Co_hasRoomForInstruction_11 (by decide) ?_
    refine lv_icmp_gt (tgt := 30) hx hb d_Co_hasRoomForInstruction_13 (by decide) (fun c2 => ?_) (fun c2 => ?_)
    · rw [if_pos c2] at h
      refine lv_iconst (v := 0) hx hb d_Co_hasRoomForInstruction_30 (by decide) ?_
      cases h
      subst hQ
      exact k_zret hx hb hr hlk (Or.inl rfl) hP hK hD hS d_Co_hasRoomForInstruction_31
    · rw [if_neg c2] at h
      refine lv_aload_n hx hb d_Co_hasRoomForInstruction_16 rfl (lv_at hl 0 rfl) ?_
      refine rd_Co_length hx hb hts hown hK hP lk_37 (v := (ko_length ko)) rfl d_Co_hasRoomForInstruction_17 ?_
      refine lv_sipush (v := 256) hx hb d_Co_hasRoomForInstruction_20 (by decide) ?_
      refine lv_icmp_ge (tgt := 30) hx hb d_Co_hasRoomForInstruction_23 (by decide) (fun c3 => ?_) (fun c3 => ?_)
      · rw [if_pos c3] at h
        refine lv_iconst (v := 0) hx hb d_Co_hasRoomForInstruction_30 (by decide) ?_
        cases h
        subst hQ
        exact k_zret hx hb hr hlk (Or.inl rfl) hP hK hD hS d_Co_hasRoomForInstruction_31
      · rw [if_neg c3] at h
        refine lv_iconst (v := 1) hx hb d_Co_hasRoomForInstruction_26 (by decide) ?_
        refine lv_goto (tgt := 31) hx hb d_Co_hasRoomForInstruction_27 (by decide) ?_
        cases h
        subst hQ
        exact k_zret hx hb hr hlk (Or.inr rfl) hP hK hD hS d_Co_hasRoomForInstruction_31
theorem d_Co_appendInstruction_0 : decode b_Co_appendInstruction 0 = .ok (.aload_n 0, 1) := by decide +kernel
theorem d_Co_appendInstruction_1 : decode b_Co_appendInstruction 1 = .ok (.invokevirtual 47, 3) := by decide +kernel
theorem d_Co_appendInstruction_4 : decode b_Co_appendInstruction 4 = .ok (.ifCond .ne 5, 3) := by decide +kernel
theorem d_Co_appendInstruction_7 : decode b_Co_appendInstruction 7 = .ok (.iconst (-1), 1) := by decide +kernel
theorem d_Co_appendInstruction_8 : decode b_Co_appendInstruction 8 = .ok (.ireturn, 1) := by decide +kernel
theorem d_Co_appendInstruction_9 : decode b_Co_appendInstruction 9 = .ok (.aload_n 0, 1) := by decide +kernel
theorem d_Co_appendInstruction_10 : decode b_Co_appendInstruction 10 = .ok (.getfield 24, 3) := by decide +kernel
theorem d_Co_appendInstruction_13 : decode b_Co_appendInstruction 13 = .ok (.aload_n 0, 1) := by decide +kernel
theorem d_Co_appendInstruction_14 : decode b_Co_appendInstruction 14 = .ok (.getfield 40, 3) := by decide +kernel
theorem d_Co_appendInstruction_17 : decode b_Co_appendInstruction 17 = .ok (.iload_n 1, 1) := by decide +kernel
theorem d_Co_appendInstruction_18 : decode b_Co_appendInstruction 18 = .ok (.iastore, 1) := by decide +kernel
theorem d_Co_appendInstruction_19 : decode b_Co_appendInstruction 19 = .ok (.aload_n 0, 1) := by decide +kernel
theorem d_Co_appendInstruction_20 : decode b_Co_appendInstruction 20 = .ok (.getfield 27, 3) := by decide +kernel
theorem d_Co_appendInstruction_23 : decode b_Co_appendInstruction 23 = .ok (.aload_n 0, 1) := by decide +kernel
theorem d_Co_appendInstruction_24 : decode b_Co_appendInstruction 24 = .ok (.getfield 40, 3) := by decide +kernel
theorem d_Co_appendInstruction_27 : decode b_Co_appendInstruction 27 = .ok (.iload_n 2, 1) := by decide +kernel
theorem d_Co_appendInstruction_28 : decode b_Co_appendInstruction 28 = .ok (.iastore, 1) := by decide +kernel
theorem d_Co_appendInstruction_29 : decode b_Co_appendInstruction 29 = .ok (.aload_n 0, 1) := by decide +kernel
theorem d_Co_appendInstruction_30 : decode b_Co_appendInstruction 30 = .ok (.getfield 30, 3) := by decide +kernel
theorem d_Co_appendInstruction_33 : decode b_Co_appendInstruction 33 = .ok (.aload_n 0, 1) := by decide +kernel
theorem d_Co_appendInstruction_34 : decode b_Co_appendInstruction 34 = .ok (.getfield 40, 3) := by decide +kernel
theorem d_Co_appendInstruction_37 : decode b_Co_appendInstruction 37 = .ok (.iload_n 3, 1) := by decide +kernel
theorem d_Co_appendInstruction_38 : decode b_Co_appendInstruction 38 = .ok (.iastore, 1) := by decide +kernel
theorem d_Co_appendInstruction_39 : decode b_Co_appendInstruction 39 = .ok (.aload_n 0, 1) := by decide +kernel
theorem d_Co_appendInstruction_40 : decode b_Co_appendInstruction 40 = .ok (.getfield 33, 3) := by decide +kernel
theorem d_Co_appendInstruction_43 : decode b_Co_appendInstruction 43 = .ok (.aload_n 0, 1) := by decide +kernel
theorem d_Co_appendInstruction_44 : decode b_Co_appendInstruction 44 = .ok (.getfield 40, 3) := by decide +kernel
theorem d_Co_appendInstruction_47 : decode b_Co_appendInstruction 47 = .ok (.iload 4, 2) := by decide +kernel
theorem d_Co_appendInstruction_49 : decode b_Co_appendInstruction 49 = .ok (.iastore, 1) := by decide +kernel
theorem d_Co_appendInstruction_50 : decode b_Co_appendInstruction 50 = .ok (.aload_n 0, 1) := by decide +kernel
theorem d_Co_appendInstruction_51 : decode b_Co_appendInstruction 51 = .ok (.dup, 1) := by decide +kernel
theorem d_Co_appendInstruction_52 : decode b_Co_appendInstruction 52 = .ok (.getfield 40, 3) := by decide +kernel
theorem d_Co_appendInstruction_55 : decode b_Co_appendInstruction 55 = .ok (.iconst 1, 1) := by decide +kernel
theorem d_Co_appendInstruction_56 : decode b_Co_appendInstruction 56 = .ok (.iadd, 1) := by decide +kernel
theorem d_Co_appendInstruction_57 : decode b_Co_appendInstruction 57 = .ok (.putfield 40, 3) := by decide +kernel
theorem d_Co_appendInstruction_60 : decode b_Co_appendInstruction 60 = .ok (.aload_n 0, 1) := by decide +kernel
theorem d_Co_appendInstruction_61 : decode b_Co_appendInstruction 61 = .ok (.getfield 21, 3) := by decide +kernel
theorem d_Co_appendInstruction_64 : decode b_Co_appendInstruction 64 = .ok (.aload_n 0, 1) := by decide +kernel
theorem d_Co_appendInstruction_65 : decode b_Co_appendInstruction 65 = .ok (.getfield 36, 3) := by decide +kernel
theorem d_Co_appendInstruction_68 : decode b_Co_appendInstruction 68 = .ok (.iconst 1, 1) := by decide +kernel
theorem d_Co_appendInstruction_69 : decode b_Co_appendInstruction 69 = .ok (.isub, 1) := by decide +kernel
theorem d_Co_appendInstruction_70 : decode b_Co_appendInstruction 70 = .ok (.dup2, 1) := by decide +kernel
theorem d_Co_appendInstruction_71 : decode b_Co_appendInstruction 71 = .ok (.iaload, 1) := by decide +kernel
theorem d_Co_appendInstruction_72 : decode b_Co_appendInstruction 72 = .ok (.iconst 1, 1) := by decide +kernel
theorem d_Co_appendInstruction_73 : decode b_Co_appendInstruction 73 = .ok (.iadd, 1) := by decide +kernel
theorem d_Co_appendInstruction_74 : decode b_Co_appendInstruction 74 = .ok (.iastore, 1) := by decide +kernel
theorem d_Co_appendInstruction_75 : decode b_Co_appendInstruction 75 = .ok (.aload_n 0, 1) := by decide +kernel
theorem d_Co_appendInstruction_76 : decode b_Co_appendInstruction 76 = .ok (.getfield 21, 3) := by decide +kernel
theorem d_Co_appendInstruction_79 : decode b_Co_appendInstruction 79 = .ok (.aload_n 0, 1) := by decide +kernel
theorem d_Co_appendInstruction_80 : decode b_Co_appendInstruction 80 = .ok (.getfield 36, 3) := by decide +kernel
theorem d_Co_appendInstruction_83 : decode b_Co_appendInstruction 83 = .ok (.iconst 1, 1) := by decide +kernel
theorem d_Co_appendInstruction_84 : decode b_Co_appendInstruction 84 = .ok (.isub, 1) := by decide +kernel
theorem d_Co_appendInstruction_85 : decode b_Co_appendInstruction 85 = .ok (.iaload, 1) := by decide +kernel
theorem d_Co_appendInstruction_86 : decode b_Co_appendInstruction 86 = .ok (.iconst 1, 1) := by decide +kernel
theorem d_Co_appendInstruction_87 : decode b_Co_appendInstruction 87 = .ok (.isub, 1) := by decide +kernel
theorem d_Co_appendInstruction_88 : decode b_Co_appendInstruction 88 = .ok (.ireturn, 1) := by decide +kernel
def r_Co_appendInstruction (n : Nat) (ko : T_ko) (a0 : Int32) (a1 : Int32) (a2 : Int32) (a3 : Int32) : Option (Int32 × T_ko) := (r_Co_hasRoomForInstruction n ko).bind (fun q1 => if q1 = 0 then some ((-1 : Int32), ko) else ga (ko_length ko) 256 (ga (ko_length (ko_numbers_s ko (upd (ko_numbers ko) (ko_length ko).toNatClampNeg a0))) 256 (ga (ko_length (ko_as__s (ko_numbers_s ko (upd (ko_numbers ko) (ko_length ko).toNatClampNeg a0)) (upd (ko_as_ (ko_numbers_s ko (upd (ko_numbers ko) (ko_length ko).toNatClampNeg a0))) (ko_length (ko_numbers_s ko (upd (ko_numbers ko) (ko_length ko).toNatClampNeg a0))).toNatClampNeg a1))) 256 (ga (ko_length (ko_bs_s (ko_as__s (ko_numbers_s ko (upd (ko_numbers ko) (ko_length ko).toNatClampNeg a0)) (upd (ko_as_ (ko_numbers_s ko (upd (ko_numbers ko) (ko_length ko).toNatClampNeg a0))) (ko_length (ko_numbers_s ko (upd (ko_numbers ko) (ko_length ko).toNatClampNeg a0))).toNatClampNeg a1)) (upd (ko_bs (ko_as__s (ko_numbers_s ko (upd (ko_numbers ko) (ko_length ko).toNatClampNeg a0)) (upd (ko_as_ (ko_numbers_s ko (upd (ko_numbers ko) (ko_length ko).toNatClampNeg a0))) (ko_length (ko_numbers_s ko (upd (ko_numbers ko) (ko_length ko).toNatClampNeg a0))).toNatClampNeg a1))) (ko_length (ko_as__s (ko_numbers_s ko (upd (ko_numbers ko) (ko_length ko).toNatClampNeg a0)) (upd (ko_as_ (ko_numbers_s ko (upd (ko_numbers ko) (ko_length ko).toNatClampNeg a0))) (ko_length (ko_numbers_s ko (upd (ko_numbers ko) (ko_length ko).toNatClampNeg a0))).toNatClampNeg a1))).toNatClampNeg a2))) 256 (gr (ko_sizes (ko_length_s (ko_cs_s (ko_bs_s (ko_as__s (ko_numbers_s ko (upd (ko_numbers ko) (ko_length ko).toNatClampNeg a0)) (upd (ko_as_ (ko_numbers_s ko (upd (ko_numbers ko) (ko_length ko).toNatClampNeg a0))) (ko_length (ko_numbers_s ko (upd (ko_numbers ko) (ko_length ko).toNatClampNeg a0))).toNatClampNeg a1)) (upd (ko_bs (ko_as__s (ko_numbers_s ko (upd (ko_numbers ko) (ko_length ko).toNatClampNeg a0)) (upd (ko_as_ (ko_numbers_s ko (upd (ko_numbers ko) (ko_length ko).toNatClampNeg a0))) (ko_length (ko_numbers_s ko (upd (ko_numbers ko) (ko_length ko).toNatClampNeg a0))).toNatClampNeg a1))) (ko_length (ko_as__s (ko_numbers_s ko (upd (ko_numbers ko) (ko_length ko).toNatClampNeg a0)) (upd (ko_as_ (ko_numbers_s ko (upd (ko_numbers ko) (ko_length ko).toNatClampNeg a0))) (ko_length (ko_numbers_s ko (upd (ko_numbers ko) (ko_length ko).toNatClampNeg a0))).toNatClampNeg a1))).toNatClampNeg a2)) (upd (ko_cs (ko_bs_s (ko_as__s (ko_numbers_s ko (upd (ko_numbers ko) (ko_length ko).toNatClampNeg a0)) (upd (ko_as_ (ko_numbers_s ko (upd (ko_numbers ko) (ko_length ko).toNatClampNeg a0))) (ko_length (ko_numbers_s ko (upd (ko_numbers ko) (ko_length ko).toNatClampNeg a0))).toNatClampNeg a1)) (upd (ko_bs (ko_as__s (ko_numbers_s ko (upd (ko_numbers ko) (ko_length ko).toNatClampNeg a0)) (upd (ko_as_ (ko_numbers_s ko (upd (ko_numbers ko) (ko_length ko).toNatClampNeg a0))) (ko_length (ko_numbers_s ko (upd (ko_numbers ko) (ko_length ko).toNatClampNeg a0))).toNatClampNeg a1))) (ko_length (ko_as__s (ko_numbers_s ko (upd (ko_numbers ko) (ko_length ko).toNatClampNeg a0)) (upd (ko_as_ (ko_numbers_s ko (upd (ko_numbers ko) (ko_length ko).toNatClampNeg a0))) (ko_length (ko_numbers_s ko (upd (ko_numbers ko) (ko_length ko).toNatClampNeg a0))).toNatClampNeg a1))).toNatClampNeg a2))) (ko_length (ko_bs_s (ko_as__s (ko_numbers_s ko (upd (ko_numbers ko) (ko_length ko).toNatClampNeg a0)) (upd (ko_as_ (ko_numbers_s ko (upd (ko_numbers ko) (ko_length ko).toNatClampNeg a0))) (ko_length (ko_numbers_s ko (upd (ko_numbers ko) (ko_length ko).toNatClampNeg a0))).toNatClampNeg a1)) (upd (ko_bs (ko_as__s (ko_numbers_s ko (upd (ko_numbers ko) (ko_length ko).toNatClampNeg a0)) (upd (ko_as_ (ko_numbers_s ko (upd (ko_numbers ko) (ko_length ko).toNatClampNeg a0))) (ko_length (ko_numbers_s ko (upd (ko_numbers ko) (ko_length ko).toNatClampNeg a0))).toNatClampNeg a1))) (ko_length (ko_as__s (ko_numbers_s ko (upd (ko_numbers ko) (ko_length ko).toNatClampNeg a0)) (upd (ko_as_ (ko_numbers_s ko (upd (ko_numbers ko) (ko_length ko).toNatClampNeg a0))) (ko_length (ko_numbers_s ko (upd (ko_numbers ko) (ko_length ko).toNatClampNeg a0))).toNatClampNeg a1))).toNatClampNeg a2))).toNatClampNeg a3)) ((ko_length (ko_cs_s (ko_bs_s (ko_as__s (ko_numbers_s ko (upd (ko_numbers ko) (ko_length ko).toNatClampNeg a0)) (upd (ko_as_ (ko_numbers_s ko (upd (ko_numbers ko) (ko_length ko).toNatClampNeg a0))) (ko_length (ko_numbers_s ko (upd (ko_numbers ko) (ko_length ko).toNatClampNeg a0))).toNatClampNeg a1)) (upd (ko_bs (ko_as__s (ko_numbers_s ko (upd (ko_numbers ko) (ko_length ko).toNatClampNeg a0)) (upd (ko_as_ (ko_numbers_s ko (upd (ko_numbers ko) (ko_length ko).toNatClampNeg a0))) (ko_length (ko_numbers_s ko (upd (ko_numbers ko) (ko_length ko).toNatClampNeg a0))).toNatClampNeg a1))) (ko_length (ko_as__s (ko_numbers_s ko (upd (ko_numbers ko) (ko_length ko).toNatClampNeg a0)) (upd (ko_as_ (ko_numbers_s ko (upd (ko_numbers ko) (ko_length ko).toNatClampNeg a0))) (ko_length (ko_numbers_s ko (upd (ko_numbers ko) (ko_length ko).toNatClampNeg a0))).toNatClampNeg a1))).toNatClampNeg a2)) (upd (ko_cs (ko_bs_s (ko_as__s (ko_numbers_s ko (upd (ko_numbers ko) (ko_length ko).toNatClampNeg a0)) (upd (ko_as_ (ko_numbers_s ko (upd (ko_numbers ko) (ko_length ko).toNatClampNeg a0))) (ko_length (ko_numbers_s ko (upd (ko_numbers ko) (ko_length ko).toNatClampNeg a0))).toNatClampNeg a1)) (upd (ko_bs (ko_as__s (ko_numbers_s ko (upd (ko_numbers ko) (ko_length ko).toNatClampNeg a0)) (upd (ko_as_ (ko_numbers_s ko (upd (ko_numbers ko) (ko_length ko).toNatClampNeg a0))) (ko_length (ko_numbers_s ko (upd (ko_numbers ko) (ko_length ko).toNatClampNeg a0))).toNatClampNeg a1))) (ko_length (ko_as__s (ko_numbers_s ko (upd (ko_numbers ko) (ko_length ko).toNatClampNeg a0)) (upd (ko_as_ (ko_numbers_s ko (upd (ko_numbers ko) (ko_length ko).toNatClampNeg a0))) (ko_length (ko_numbers_s ko (upd (ko_numbers ko) (ko_length ko).toNatClampNeg a0))).toNatClampNeg a1))).toNatClampNeg a2))) (ko_length (ko_bs_s (ko_as__s (ko_numbers_s ko (upd (ko_numbers ko) (ko_length ko).toNatClampNeg a0)) (upd (ko_as_ (ko_numbers_s ko (upd (ko_numbers ko) (ko_length ko).toNatClampNeg a0))) (ko_length (ko_numbers_s ko (upd (ko_numbers ko) (ko_length ko).toNatClampNeg a0))).toNatClampNeg a1)) (upd (ko_bs (ko_as__s (ko_numbers_s ko (upd (ko_numbers ko) (ko_length ko).toNatClampNeg a0)) (upd (ko_as_ (ko_numbers_s ko (upd (ko_numbers ko) (ko_length ko).toNatClampNeg a0))) (ko_length (ko_numbers_s ko (upd (ko_numbers ko) (ko_length ko).toNatClampNeg a0))).toNatClampNeg a1))) (ko_length (ko_as__s (ko_numbers_s ko (upd (ko_numbers ko) (ko_length ko).toNatClampNeg a0)) (upd (ko_as_ (ko_numbers_s ko (upd (ko_numbers ko) (ko_length ko).toNatClampNeg a0))) (ko_length (ko_numbers_s ko (upd (ko_numbers ko) (ko_length ko).toNatClampNeg a0))).toNatClampNeg a1))).toNatClampNeg a2))).toNatClampNeg a3))) + (1 : Int32)))) ((ko_units (ko_length_s (ko_cs_s (ko_bs_s (ko_as__s (ko_numbers_s ko (upd (ko_numbers ko) (ko_length ko).toNatClampNeg a0)) (upd (ko_as_ (ko_numbers_s ko (upd (ko_numbers ko) (ko_length ko).toNatClampNeg a0))) (ko_length (ko_numbers_s ko (upd (ko_numbers ko) (ko_length ko).toNatClampNeg a0))).toNatClampNeg a1)) (upd (ko_bs (ko_as__s (ko_numbers_s ko (upd (ko_numbers ko) (ko_length ko).toNatClampNeg a0)) (upd (ko_as_ (ko_numbers_s ko (upd (ko_numbers ko) (ko_length ko).toNatClampNeg a0))) (ko_length (ko_numbers_s ko (upd (ko_numbers ko) (ko_length ko).toNatClampNeg a0))).toNatClampNeg a1))) (ko_length (ko_as__s (ko_numbers_s ko (upd (ko_numbers ko) (ko_length ko).toNatClampNeg a0)) (upd (ko_as_ (ko_numbers_s ko (upd (ko_numbers ko) (ko_length ko).toNatClampNeg a0))) (ko_length (ko_numbers_s ko (upd (ko_numbers ko) (ko_length ko).toNatClampNeg a0))).toNatClampNeg a1))).toNatClampNeg a2)) (upd (ko_cs (ko_bs_s (ko_as__s (ko_numbers_s ko (upd (ko_numbers ko) (ko_length ko).toNatClampNeg a0)) (upd (ko_as_ (ko_numbers_s ko (upd (ko_numbers ko) (ko_length ko).toNatClampNeg a0))) (ko_length (ko_numbers_s ko (upd (ko_numbers ko) (ko_length ko).toNatClampNeg a0))).toNatClampNeg a1)) (upd (ko_bs (ko_as__s (ko_numbers_s ko (upd (ko_numbers ko) (ko_length ko).toNatClampNeg a0)) (upd (ko_as_ (ko_numbers_s ko (upd (ko_numbers ko) (ko_length ko).toNatClampNeg a0))) (ko_length (ko_numbers_s ko (upd (ko_numbers ko) (ko_length ko).toNatClampNeg a0))).toNatClampNeg a1))) (ko_length (ko_as__s (ko_numbers_s ko (upd (ko_numbers ko) (ko_length ko).toNatClampNeg a0)) (upd (ko_as_ (ko_numbers_s ko (upd (ko_numbers ko) (ko_length ko).toNatClampNeg a0))) (ko_length (ko_numbers_s ko (upd (ko_numbers ko) (ko_length ko).toNatClampNeg a0))).toNatClampNeg a1))).toNatClampNeg a2))) (ko_length (ko_bs_s (ko_as__s (ko_numbers_s ko (upd (ko_numbers ko) (ko_length ko).toNatClampNeg a0)) (upd (ko_as_ (ko_numbers_s ko (upd (ko_numbers ko) (ko_length ko).toNatClampNeg a0))) (ko_length (ko_numbers_s ko (upd (ko_numbers ko) (ko_length ko).toNatClampNeg a0))).toNatClampNeg a1)) (upd (ko_bs (ko_as__s (ko_numbers_s ko (upd (ko_numbers ko) (ko_length ko).toNatClampNeg a0)) (upd (ko_as_ (ko_numbers_s ko (upd (ko_numbers ko) (ko_length ko).toNatClampNeg a0))) (ko_length (ko_numbers_s ko (upd (ko_numbers ko) (ko_length ko).toNatClampNeg a0))).toNatClampNeg a1))) (ko_length (ko_as__s (ko_numbers_s ko (upd (ko_numbers ko) (ko_length ko).toNatClampNeg a0)) (upd (ko_as_ (ko_numbers_s ko (upd (ko_numbers ko) (ko_length ko).toNatClampNeg a0))) (ko_length (ko_numbers_s ko (upd (ko_numbers ko) (ko_length ko).toNatClampNeg a0))).toNatClampNeg a1))).toNatClampNeg a2))).toNatClampNeg a3)) ((ko_length (ko_cs_s (ko_bs_s (ko_as__s (ko_numbers_s ko (upd (ko_numbers ko) (ko_length ko).toNatClampNeg a0)) (upd (ko_as_ (ko_numbers_s ko (upd (ko_numbers ko) (ko_length ko).toNatClampNeg a0))) (ko_length (ko_numbers_s ko (upd (ko_numbers ko) (ko_length ko).toNatClampNeg a0))).toNatClampNeg a1)) (upd (ko_bs (ko_as__s (ko_numbers_s ko (upd (ko_numbers ko) (ko_length ko).toNatClampNeg a0)) (upd (ko_as_ (ko_numbers_s ko (upd (ko_numbers ko) (ko_length ko).toNatClampNeg a0))) (ko_length (ko_numbers_s ko (upd (ko_numbers ko) (ko_length ko).toNatClampNeg a0))).toNatClampNeg a1))) (ko_length (ko_as__s (ko_numbers_s ko (upd (ko_numbers ko) (ko_length ko).toNatClampNeg a0)) (upd (ko_as_ (ko_numbers_s ko (upd (ko_numbers ko) (ko_length ko).toNatClampNeg a0))) (ko_length (ko_numbers_s ko (upd (ko_numbers ko) (ko_length ko).toNatClampNeg a0))).toNatClampNeg a1))).toNatClampNeg a2)) (upd (ko_cs (ko_bs_s (ko_as__s (ko_numbers_s ko (upd (ko_numbers ko) (ko_length ko).toNatClampNeg a0)) (upd (ko_as_ (ko_numbers_s ko (upd (ko_numbers ko) (ko_length ko).toNatClampNeg a0))) (ko_length (ko_numbers_s ko (upd (ko_numbers ko) (ko_length ko).toNatClampNeg a0))).toNatClampNeg a1)) (upd (ko_bs (ko_as__s (ko_numbers_s ko (upd (ko_numbers ko) (ko_length ko).toNatClampNeg a0)) (upd (ko_as_ (ko_numbers_s ko (upd (ko_numbers ko) (ko_length ko).toNatClampNeg a0))) (ko_length (ko_numbers_s ko (upd (ko_numbers ko) (ko_length ko).toNatClampNeg a0))).toNatClampNeg a1))) (ko_length (ko_as__s (ko_numbers_s ko (upd (ko_numbers ko) (ko_length ko).toNatClampNeg a0)) (upd (ko_as_ (ko_numbers_s ko (upd (ko_numbers ko) (ko_length ko).toNatClampNeg a0))) (ko_length (ko_numbers_s ko (upd (ko_numbers ko) (ko_length ko).toNatClampNeg a0))).toNatClampNeg a1))).toNatClampNeg a2))) (ko_length (ko_bs_s (ko_as__s (ko_numbers_s ko (upd (ko_numbers ko) (ko_length ko).toNatClampNeg a0)) (upd (ko_as_ (ko_numbers_s ko (upd (ko_numbers ko) (ko_length ko).toNatClampNeg a0))) (ko_length (ko_numbers_s ko (upd (ko_numbers ko) (ko_length ko).toNatClampNeg a0))).toNatClampNeg a1)) (upd (ko_bs (ko_as__s (ko_numbers_s ko (upd (ko_numbers ko) (ko_length ko).toNatClampNeg a0)) (upd (ko_as_ (ko_numbers_s ko (upd (ko_numbers ko) (ko_length ko).toNatClampNeg a0))) (ko_length (ko_numbers_s ko (upd (ko_numbers ko) (ko_length ko).toNatClampNeg a0))).toNatClampNeg a1))) (ko_length (ko_as__s (ko_numbers_s ko (upd (ko_numbers ko) (ko_length ko).toNatClampNeg a0)) (upd (ko_as_ (ko_numbers_s ko (upd (ko_numbers ko) (ko_length ko).toNatClampNeg a0))) (ko_length (ko_numbers_s ko (upd (ko_numbers ko) (ko_length ko).toNatClampNeg a0))).toNatClampNeg a1))).toNatClampNeg a2))).toNatClampNeg a3))) + (1 : Int32)))) - (1 : Int32)) 16 (fun v8 => ga ((ko_units (ko_length_s (ko_cs_s (ko_bs_s (ko_as__s (ko_numbers_s ko (upd (ko_numbers ko) (ko_length ko).toNatClampNeg a0)) (upd (ko_as_ (ko_numbers_s ko (upd (ko_numbers ko) (ko_length ko).toNatClampNeg a0))) (ko_length (ko_numbers_s ko (upd (ko_numbers ko) (ko_length ko).toNatClampNeg a0))).toNatClampNeg a1)) (upd (ko_bs (ko_as__s (ko_numbers_s ko (upd (ko_numbers ko) (ko_length ko).toNatClampNeg a0)) (upd (ko_as_ (ko_numbers_s ko (upd (ko_numbers ko) (ko_length ko).toNatClampNeg a0))) (ko_length (ko_numbers_s ko (upd (ko_numbers ko) (ko_length ko).toNatClampNeg a0))).toNatClampNeg a1))) (ko_length (ko_as__s (ko_numbers_s ko (upd (ko_numbers ko) (ko_length ko).toNatClampNeg a0)) (upd (ko_as_ (ko_numbers_s ko (upd (ko_numbers ko) (ko_length ko).toNatClampNeg a0))) (ko_length (ko_numbers_s ko (upd (ko_numbers ko) (ko_length ko).toNatClampNeg a0))).toNatClampNeg a1))).toNatClampNeg a2)) (upd (ko_cs (ko_bs_s (ko_as__s (ko_numbers_s ko (upd (ko_numbers ko) (ko_length ko).toNatClampNeg a0)) (upd (ko_as_ (ko_numbers_s ko (upd (ko_numbers ko) (ko_length ko).toNatClampNeg a0))) (ko_length (ko_numbers_s ko (upd (ko_numbers ko) (ko_length ko).toNatClampNeg a0))).toNatClampNeg a1)) (upd (ko_bs (ko_as__s (ko_numbers_s ko (upd (ko_numbers ko) (ko_length ko).toNatClampNeg a0)) (upd (ko_as_ (ko_numbers_s ko (upd (ko_numbers ko) (ko_length ko).toNatClampNeg a0))) (ko_length (ko_numbers_s ko (upd (ko_numbers ko) (ko_length ko).toNatClampNeg a0))).toNatClampNeg a1))) (ko_length (ko_as__s (ko_numbers_s ko (upd (ko_numbers ko) (ko_length ko).toNatClampNeg a0)) (upd (ko_as_ (ko_numbers_s ko (upd (ko_numbers ko) (ko_length ko).toNatClampNeg a0))) (ko_length (ko_numbers_s ko (upd (ko_numbers ko) (ko_length ko).toNatClampNeg a0))).toNatClampNeg a1))).toNatClampNeg a2))) (ko_length (ko_bs_s (ko_as__s (ko_numbers_s ko (upd (ko_numbers ko) (ko_length ko).toNatClampNeg a0)) (upd (ko_as_ (ko_numbers_s ko (upd (ko_numbers ko) (ko_length ko).toNatClampNeg a0))) (ko_length (ko_numbers_s ko (upd (ko_numbers ko) (ko_length ko).toNatClampNeg a0))).toNatClampNeg a1)) (upd (ko_bs (ko_as__s (ko_numbers_s ko (upd (ko_numbers ko) (ko_length ko).toNatClampNeg a0)) (upd (ko_as_ (ko_numbers_s ko (upd (ko_numbers ko) (ko_length ko).toNatClampNeg a0))) (ko_length (ko_numbers_s ko (upd (ko_numbers ko) (ko_length ko).toNatClampNeg a0))).toNatClampNeg a1))) (ko_length (ko_as__s (ko_numbers_s ko (upd (ko_numbers ko) (ko_length ko).toNatClampNeg a0)) (upd (ko_as_ (ko_numbers_s ko (upd (ko_numbers ko) (ko_length ko).toNatClampNeg a0))) (ko_length (ko_numbers_s ko (upd (ko_numbers ko) (ko_length ko).toNatClampNeg a0))).toNatClampNeg a1))).toNatClampNeg a2))).toNatClampNeg a3)) ((ko_length (ko_cs_s (ko_bs_s (ko_as__s (ko_numbers_s ko (upd (ko_numbers ko) (ko_length ko).toNatClampNeg a0)) (upd (ko_as_ (ko_numbers_s ko (upd (ko_numbers ko) (ko_length ko).toNatClampNeg a0))) (ko_length (ko_numbers_s ko (upd (ko_numbers ko) (ko_length ko).toNatClampNeg a0))).toNatClampNeg a1)) (upd (ko_bs (ko_as__s (ko_numbers_s ko (upd (ko_numbers ko) (ko_length ko).toNatClampNeg a0)) (upd (ko_as_ (ko_numbers_s ko (upd (ko_numbers ko) (ko_length ko).toNatClampNeg a0))) (ko_length (ko_numbers_s ko (upd (ko_numbers ko) (ko_length ko).toNatClampNeg a0))).toNatClampNeg a1))) (ko_length (ko_as__s (ko_numbers_s ko (upd (ko_numbers ko) (ko_length ko).toNatClampNeg a0)) (upd (ko_as_ (ko_numbers_s ko (upd (ko_numbers ko) (ko_length ko).toNatClampNeg a0))) (ko_length (ko_numbers_s ko (upd (ko_numbers ko) (ko_length ko).toNatClampNeg a0))).toNatClampNeg a1))).toNatClampNeg a2)) (upd (ko_cs (ko_bs_s (ko_as__s (ko_numbers_s ko (upd (ko_numbers ko) (ko_length ko).toNatClampNeg a0)) (upd (ko_as_ (ko_numbers_s ko (upd (ko_numbers ko) (ko_length ko).toNatClampNeg a0))) (ko_length (ko_numbers_s ko (upd (ko_numbers ko) (ko_length ko).toNatClampNeg a0))).toNatClampNeg a1)) (upd (ko_bs (ko_as__s (ko_numbers_s ko (upd (ko_numbers ko) (ko_length ko).toNatClampNeg a0)) (upd (ko_as_ (ko_numbers_s ko (upd (ko_numbers ko) (ko_length ko).toNatClampNeg a0))) (ko_length (ko_numbers_s ko (upd (ko_numbers ko) (ko_length ko).toNatClampNeg a0))).toNatClampNeg a1))) (ko_length (ko_as__s (ko_numbers_s ko (upd (ko_numbers ko) (ko_length ko).toNatClampNeg a0)) (upd (ko_as_ (ko_numbers_s ko (upd (ko_numbers ko) (ko_length ko).toNatClampNeg a0))) (ko_length (ko_numbers_s ko (upd (ko_numbers ko) (ko_length ko).toNatClampNeg a0))).toNatClampNeg a1))).toNatClampNeg a2))) (ko_length (ko_bs_s (ko_as__s (ko_numbers_s ko (upd (ko_numbers ko) (ko_length ko).toNatClampNeg a0)) (upd (ko_as_ (ko_numbers_s ko (upd (ko_numbers ko) (ko_length ko).toNatClampNeg a0))) (ko_length (ko_numbers_s ko (upd (ko_numbers ko) (ko_length ko).toNatClampNeg a0))).toNatClampNeg a1)) (upd (ko_bs (ko_as__s (ko_numbers_s ko (upd (ko_numbers ko) (ko_length ko).toNatClampNeg a0)) (upd (ko_as_ (ko_numbers_s ko (upd (ko_numbers ko) (ko_length ko).toNatClampNeg a0))) (ko_length (ko_numbers_s ko (upd (ko_numbers ko) (ko_length ko).toNatClampNeg a0))).toNatClampNeg a1))) (ko_length (ko_as__s (ko_numbers_s ko (upd (ko_numbers ko) (ko_length ko).toNatClampNeg a0)) (upd (ko_as_ (ko_numbers_s ko (upd (ko_numbers ko) (ko_length ko).toNatClampNeg a0))) (ko_length (ko_numbers_s ko (upd (ko_numbers ko) (ko_length ko).toNatClampNeg a0))).toNatClampNeg a1))).toNatClampNeg a2))).toNatClampNeg a3))) + (1 : Int32)))) - (1 : Int32)) 16 (gr (ko_sizes (ko_sizes_s (ko_length_s (ko_cs_s (ko_bs_s (ko_as__s (ko_numbers_s ko (upd (ko_numbers ko) (ko_length ko).toNatClampNeg a0)) (upd (ko_as_ (ko_numbers_s ko (upd (ko_numbers ko) (ko_length ko).toNatClampNeg a0))) (ko_length (ko_numbers_s ko (upd (ko_numbers ko) (ko_length ko).toNatClampNeg a0))).toNatClampNeg a1)) (upd (ko_bs (ko_as__s (ko_numbers_s ko (upd (ko_numbers ko) (ko_length ko).toNatClampNeg a0)) (upd (ko_as_ (ko_numbers_s ko (upd (ko_numbers ko) (ko_length ko).toNatClampNeg a0))) (ko_length (ko_numbers_s ko (upd (ko_numbers ko) (ko_length ko).toNatClampNeg a0))).toNatClampNeg a1))) (ko_length (ko_as__s (ko_numbers_s ko (upd (ko_numbers ko) (ko_length ko).toNatClampNeg a0)) (upd (ko_as_ (ko_numbers_s ko (upd (ko_numbers ko) (ko_length ko).toNatClampNeg a0))) (ko_length (ko_numbers_s ko (upd (ko_numbers ko) (ko_length ko).toNatClampNeg a0))).toNatClampNeg a1))).toNatClampNeg a2)) (upd (ko_cs (ko_bs_s (ko_as__s (ko_numbers_s ko (upd (ko_numbers ko) (ko_length ko).toNatClampNeg a0)) (upd (ko_as_ (ko_numbers_s ko (upd (ko_numbers ko) (ko_length ko).toNatClampNeg a0))) (ko_length (ko_numbers_s ko (upd (ko_numbers ko) (ko_length ko).toNatClampNeg a0))).toNatClampNeg a1)) (upd (ko_bs (ko_as__s (ko_numbers_s ko (upd (ko_numbers ko) (ko_length ko).toNatClampNeg a0)) (upd (ko_as_ (ko_numbers_s ko (upd (ko_numbers ko) (ko_length ko).toNatClampNeg a0))) (ko_length (ko_numbers_s ko (upd (ko_numbers ko) (ko_length ko).toNatClampNeg a0))).toNatClampNeg a1))) (ko_length (ko_as__s (ko_numbers_s ko (upd (ko_numbers ko) (ko_length ko).toNatClampNeg a0)) (upd (ko_as_ (ko_numbers_s ko (upd (ko_numbers ko) (ko_length ko).toNatClampNeg a0))) (ko_length (ko_numbers_s ko (upd (ko_numbers ko) (ko_length ko).toNatClampNeg a0))).toNatClampNeg a1))).toNatClampNeg a2))) (ko_length (ko_bs_s (ko_as__s (ko_numbers_s ko (upd (ko_numbers ko) (ko_length ko).toNatClampNeg a0)) (upd (ko_as_ (ko_numbers_s ko (upd (ko_numbers ko) (ko_length ko).toNatClampNeg a0))) (ko_length (ko_numbers_s ko (upd (ko_numbers ko) (ko_length ko).toNatClampNeg a0))).toNatClampNeg a1)) (upd (ko_bs (ko_as__s (ko_numbers_s ko (upd (ko_numbers ko) (ko_length ko).toNatClampNeg a0)) (upd (ko_as_ (ko_numbers_s ko (upd (ko_numbers ko) (ko_length ko).toNatClampNeg a0))) (ko_length (ko_numbers_s ko (upd (ko_numbers ko) (ko_length ko).toNatClampNeg a0))).toNatClampNeg a1))) (ko_length (ko_as__s (ko_numbers_s ko (upd (ko_numbers ko) (ko_length ko).toNatClampNeg a0)) (upd (ko_as_ (ko_numbers_s ko (upd (ko_numbers ko) (ko_length ko).toNatClampNeg a0))) (ko_length (ko_numbers_s ko (upd (ko_numbers ko) (ko_length ko).toNatClampNeg a0))).toNatClampNeg a1))).toNatClampNeg a2))).toNatClampNeg a3)) ((ko_length (ko_cs_s (ko_bs_s (ko_as__s (ko_numbers_s ko (upd (ko_numbers ko) (ko_length ko).toNatClampNeg a0)) (upd (ko_as_ (ko_numbers_s ko (upd (ko_numbers ko) (ko_length ko).toNatClampNeg a0))) (ko_length (ko_numbers_s ko (upd (ko_numbers ko) (ko_length ko).toNatClampNeg a0))).toNatClampNeg a1)) (upd (ko_bs (ko_as__s (ko_numbers_s ko (upd (ko_numbers ko) (ko_length ko).toNatClampNeg a0)) (upd (ko_as_ (ko_numbers_s ko (upd (ko_numbers ko) (ko_length ko).toNatClampNeg a0))) (ko_length (ko_numbers_s ko (upd (ko_numbers ko) (ko_length ko).toNatClampNeg a0))).toNatClampNeg a1))) (ko_length (ko_as__s (ko_numbers_s ko (upd (ko_numbers ko) (ko_length ko).toNatClampNeg a0)) (upd (ko_as_ (ko_numbers_s ko (upd (ko_numbers ko) (ko_length ko).toNatClampNeg a0))) (ko_length (ko_numbers_s ko (upd (ko_numbers ko) (ko_length ko).toNatClampNeg a0))).toNatClampNeg a1))).toNatClampNeg a2)) (upd (ko_cs (ko_bs_s (ko_as__s (ko_numbers_s ko (upd (ko_numbers ko) (ko_length ko).toNatClampNeg a0)) (upd (ko_as_ (ko_numbers_s ko (upd (ko_numbers ko) (ko_length ko).toNatClampNeg a0))) (ko_length (ko_numbers_s ko (upd (ko_numbers ko) (ko_length ko).toNatClampNeg a0))).toNatClampNeg a1)) (upd (ko_bs (ko_as__s (ko_numbers_s ko (upd (ko_numbers ko) (ko_length ko).toNatClampNeg a0)) (upd (ko_as_ (ko_numbers_s ko (upd (ko_numbers ko) (ko_length ko).toNatClampNeg a0))) (ko_length (ko_numbers_s ko (upd (ko_numbers ko) (ko_length ko).toNatClampNeg a0))).toNatClampNeg a1))) (ko_length (ko_as__s (ko_numbers_s ko (upd (ko_numbers ko) (ko_length ko).toNatClampNeg a0)) (upd (ko_as_ (ko_numbers_s ko (upd (ko_numbers ko) (ko_length ko).toNatClampNeg a0))) (ko_length (ko_numbers_s ko (upd (ko_numbers ko) (ko_length ko).toNatClampNeg a0))).toNatClampNeg a1))).toNatClampNeg a2))) (ko_length (ko_bs_s (ko_as__s (ko_numbers_s ko (upd (ko_numbers ko) (ko_length ko).toNatClampNeg a0)) (upd (ko_as_ (ko_numbers_s ko (upd (ko_numbers ko) (ko_length ko).toNatClampNeg a0))) (ko_length (ko_numbers_s ko (upd (ko_numbers ko) (ko_length ko).toNatClampNeg a0))).toNatClampNeg a1)) (upd (ko_bs (ko_as__s (ko_numbers_s ko (upd (ko_numbers ko) (ko_length ko).toNatClampNeg a0)) (upd (ko_as_ (ko_numbers_s ko (upd (ko_numbers ko) (ko_length ko).toNatClampNeg a0))) (ko_length (ko_numbers_s ko (upd (ko_numbers ko) (ko_length ko).toNatClampNeg a0))).toNatClampNeg a1))) (ko_length (ko_as__s (ko_numbers_s ko (upd (ko_numbers ko) (ko_length ko).toNatClampNeg a0)) (upd (ko_as_ (ko_numbers_s ko (upd (ko_numbers ko) (ko_length ko).toNatClampNeg a0))) (ko_length (ko_numbers_s ko (upd (ko_numbers ko) (ko_length ko).toNatClampNeg a0))).toNatClampNeg a1))).toNatClampNeg a2))).toNatClampNeg a3))) + (1 : Int32))) (upd (ko_sizes (ko_length_s (ko_cs_s (ko_bs_s (ko_as__s (ko_numbers_s ko (upd (ko_numbers ko) (ko_length ko).toNatClampNeg a0)) (upd (ko_as_ (ko_numbers_s ko (upd (ko_numbers ko) (ko_length ko).toNatClampNeg a0))) (ko_length (ko_numbers_s ko (upd (ko_numbers ko) (ko_length ko).toNatClampNeg a0))).toNatClampNeg a1)) (upd (ko_bs (ko_as__s (ko_numbers_s ko (upd (ko_numbers ko) (ko_length ko).toNatClampNeg a0)) (upd (ko_as_ (ko_numbers_s ko (upd (ko_numbers ko) (ko_length ko).toNatClampNeg a0))) (ko_length (ko_numbers_s ko (upd (ko_numbers ko) (ko_length ko).toNatClampNeg a0))).toNatClampNeg a1))) (ko_length (ko_as__s (ko_numbers_s ko (upd (ko_numbers ko) (ko_length ko).toNatClampNeg a0)) (upd (ko_as_ (ko_numbers_s ko (upd (ko_numbers ko) (ko_length ko).toNatClampNeg a0))) (ko_length (ko_numbers_s ko (upd (ko_numbers ko) (ko_length ko).toNatClampNeg a0))).toNatClampNeg a1))).toNatClampNeg a2)) (upd (ko_cs (ko_bs_s (ko_as__s (ko_numbers_s ko (upd (ko_numbers ko) (ko_length ko).toNatClampNeg a0)) (upd (ko_as_ (ko_numbers_s ko (upd (ko_numbers ko) (ko_length ko).toNatClampNeg a0))) (ko_length (ko_numbers_s ko (upd (ko_numbers ko) (ko_length ko).toNatClampNeg a0))).toNatClampNeg a1)) (upd (ko_bs (ko_as__s (ko_numbers_s ko (upd (ko_numbers ko) (ko_length ko).toNatClampNeg a0)) (upd (ko_as_ (ko_numbers_s ko (upd (ko_numbers ko) (ko_length ko).toNatClampNeg a0))) (ko_length (ko_numbers_s ko (upd (ko_numbers ko) (ko_length ko).toNatClampNeg a0))).toNatClampNeg a1))) (ko_length (ko_as__s (ko_numbers_s ko (upd (ko_numbers ko) (ko_length ko).toNatClampNeg a0)) (upd (ko_as_ (ko_numbers_s ko (upd (ko_numbers ko) (ko_length ko).toNatClampNeg a0))) (ko_length (ko_numbers_s ko (upd (ko_numbers ko) (ko_length ko).toNatClampNeg a0))).toNatClampNeg a1))).toNatClampNeg a2))) (ko_length (ko_bs_s (ko_as__s (ko_numbers_s ko (upd (ko_numbers ko) (ko_length ko).toNatClampNeg a0)) (upd (ko_as_ (ko_numbers_s ko (upd (ko_numbers ko) (ko_length ko).toNatClampNeg a0))) (ko_length (ko_numbers_s ko (upd (ko_numbers ko) (ko_length ko).toNatClampNeg a0))).toNatClampNeg a1)) (upd (ko_bs (ko_as__s (ko_numbers_s ko (upd (ko_numbers ko) (ko_length ko).toNatClampNeg a0)) (upd (ko_as_ (ko_numbers_s ko (upd (ko_numbers ko) (ko_length ko).toNatClampNeg a0))) (ko_length (ko_numbers_s ko (upd (ko_numbers ko) (ko_length ko).toNatClampNeg a0))).toNatClampNeg a1))) (ko_length (ko_as__s (ko_numbers_s ko (upd (ko_numbers ko) (ko_length ko).toNatClampNeg a0)) (upd (ko_as_ (ko_numbers_s ko (upd (ko_numbers ko) (ko_length ko).toNatClampNeg a0))) (ko_length (ko_numbers_s ko (upd (ko_numbers ko) (ko_length ko).toNatClampNeg a0))).toNatClampNeg a1))).toNatClampNeg a2))).toNatClampNeg a3)) ((ko_length (ko_cs_s (ko_bs_s (ko_as__s (ko_numbers_s ko (upd (ko_numbers ko) (ko_length ko).toNatClampNeg a0)) (upd (ko_as_ (ko_numbers_s ko (upd (ko_numbers ko) (ko_length ko).toNatClampNeg a0))) (ko_length (ko_numbers_s ko (upd (ko_numbers ko) (ko_length ko).toNatClampNeg a0))).toNatClampNeg a1)) (upd (ko_bs (ko_as__s (ko_numbers_s ko (upd (ko_numbers ko) (ko_length ko).toNatClampNeg a0)) (upd (ko_as_ (ko_numbers_s ko (upd (ko_numbers ko) (ko_length ko).toNatClampNeg a0))) (ko_length (ko_numbers_s ko (upd (ko_numbers ko) (ko_length ko).toNatClampNeg a0))).toNatClampNeg a1))) (ko_length (ko_as__s (ko_numbers_s ko (upd (ko_numbers ko) (ko_length ko).toNatClampNeg a0)) (upd (ko_as_ (ko_numbers_s ko (upd (ko_numbers ko) (ko_length ko).toNatClampNeg a0))) (ko_length (ko_numbers_s ko (upd (ko_numbers ko) (ko_length ko).toNatClampNeg a0))).toNatClampNeg a1))).toNatClampNeg a2)) (upd (ko_cs (ko_bs_s (ko_as__s (ko_numbers_s ko (upd (ko_numbers ko) (ko_length ko).toNatClampNeg a0)) (upd (ko_as_ (ko_numbers_s ko (upd (ko_numbers ko) (ko_length ko).toNatClampNeg a0))) (ko_length (ko_numbers_s ko (upd (ko_numbers ko) (ko_length ko).toNatClampNeg a0))).toNatClampNeg a1)) (upd (ko_bs (ko_as__s (ko_numbers_s ko (upd (ko_numbers ko) (ko_length ko).toNatClampNeg a0)) (upd (ko_as_ (ko_numbers_s ko (upd (ko_numbers ko) (ko_length ko).toNatClampNeg a0))) (ko_length (ko_numbers_s ko (upd (ko_numbers ko) (ko_length ko).toNatClampNeg a0))).toNatClampNeg a1))) (ko_length (ko_as__s (ko_numbers_s ko (upd (ko_numbers ko) (ko_length ko).toNatClampNeg a0)) (upd (ko_as_ (ko_numbers_s ko (upd (ko_numbers ko) (ko_length ko).toNatClampNeg a0))) (ko_length (ko_numbers_s ko (upd (ko_numbers ko) (ko_length ko).toNatClampNeg a0))).toNatClampNeg a1))).toNatClampNeg a2))) (ko_length (ko_bs_s (ko_as__s (ko_numbers_s ko (upd (ko_numbers ko) (ko_length ko).toNatClampNeg a0)) (upd (ko_as_ (ko_numbers_s ko (upd (ko_numbers ko) (ko_length ko).toNatClampNeg a0))) (ko_length (ko_numbers_s ko (upd (ko_numbers ko) (ko_length ko).toNatClampNeg a0))).toNatClampNeg a1)) (upd (ko_bs (ko_as__s (ko_numbers_s ko (upd (ko_numbers ko) (ko_length ko).toNatClampNeg a0)) (upd (ko_as_ (ko_numbers_s ko (upd (ko_numbers ko) (ko_length ko).toNatClampNeg a0))) (ko_length (ko_numbers_s ko (upd (ko_numbers ko) (ko_length ko).toNatClampNeg a0))).toNatClampNeg a1))) (ko_length (ko_as__s (ko_numbers_s ko (upd (ko_numbers ko) (ko_length ko).toNatClampNeg a0)) (upd (ko_as_ (ko_numbers_s ko (upd (ko_numbers ko) (ko_length ko).toNatClampNeg a0))) (ko_length (ko_numbers_s ko (upd (ko_numbers ko) (ko_length ko).toNatClampNeg a0))).toNatClampNeg a1))).toNatClampNeg a2))).toNatClampNeg a3))) + (1 : Int32)))) ((ko_units (ko_length_s (ko_cs_s (ko_bs_s (ko_as__s (ko_numbers_s ko (upd (ko_numbers ko) (ko_length ko).toNatClampNeg a0)) (upd (ko_as_ (ko_numbers_s ko (upd (ko_numbers ko) (ko_length ko).toNatClampNeg a0))) (ko_length (ko_numbers_s ko (upd (ko_numbers ko) (ko_length ko).toNatClampNeg a0))).toNatClampNeg a1)) (upd (ko_bs (ko_as__s (ko_numbers_s ko (upd (ko_numbers ko) (ko_length ko).toNatClampNeg a0)) (upd (ko_as_ (ko_numbers_s ko (upd (ko_numbers ko) (ko_length ko).toNatClampNeg a0))) (ko_length (ko_numbers_s ko (upd (ko_numbers ko) (ko_length ko).toNatClampNeg a0))).toNatClampNeg a1))) (ko_length (ko_as__s (ko_numbers_s ko (upd (ko_numbers ko) (ko_length ko).toNatClampNeg a0)) (upd (ko_as_ (ko_numbers_s ko (upd (ko_numbers ko) (ko_length ko).toNatClampNeg a0))) (ko_length (ko_numbers_s ko (upd (ko_numbers ko) (ko_length ko).toNatClampNeg a0))).toNatClampNeg a1))).toNatClampNeg a2)) (upd (ko_cs (ko_bs_s (ko_as__s (ko_numbers_s ko (upd (ko_numbers ko) (ko_length ko).toNatClampNeg a0)) (upd (ko_as_ (ko_numbers_s ko (upd (ko_numbers ko) (ko_length ko).toNatClampNeg a0))) (ko_length (ko_numbers_s ko (upd (ko_numbers ko) (ko_length ko).toNatClampNeg a0))).toNatClampNeg a1)) (upd (ko_bs (ko_as__s (ko_numbers_s ko (upd (ko_numbers ko) (ko_length ko).toNatClampNeg a0)) (upd (ko_as_ (ko_numbers_s ko (upd (ko_numbers ko) (ko_length ko).toNatClampNeg a0))) (ko_length (ko_numbers_s ko (upd (ko_numbers ko) (ko_length ko).toNatClampNeg a0))).toNatClampNeg a1))) (ko_length (ko_as__s (ko_numbers_s ko (upd (ko_numbers ko) (ko_length ko).toNatClampNeg a0)) (upd (ko_as_ (ko_numbers_s ko (upd (ko_numbers ko) (ko_length ko).toNatClampNeg a0))) (ko_length (ko_numbers_s ko (upd (ko_numbers ko) (ko_length ko).toNatClampNeg a0))).toNatClampNeg a1))).toNatClampNeg a2))) (ko_length (ko_bs_s (ko_as__s (ko_numbers_s ko (upd (ko_numbers ko) (ko_length ko).toNatClampNeg a0)) (upd (ko_as_ (ko_numbers_s ko (upd (ko_numbers ko) (ko_length ko).toNatClampNeg a0))) (ko_length (ko_numbers_s ko (upd (ko_numbers ko) (ko_length ko).toNatClampNeg a0))).toNatClampNeg a1)) (upd (ko_bs (ko_as__s (ko_numbers_s ko (upd (ko_numbers ko) (ko_length ko).toNatClampNeg a0)) (upd (ko_as_ (ko_numbers_s ko (upd (ko_numbers ko) (ko_length ko).toNatClampNeg a0))) (ko_length (ko_numbers_s ko (upd (ko_numbers ko) (ko_length ko).toNatClampNeg a0))).toNatClampNeg a1))) (ko_length (ko_as__s (ko_numbers_s ko (upd (ko_numbers ko) (ko_length ko).toNatClampNeg a0)) (upd (ko_as_ (ko_numbers_s ko (upd (ko_numbers ko) (ko_length ko).toNatClampNeg a0))) (ko_length (ko_numbers_s ko (upd (ko_numbers ko) (ko_length ko).toNatClampNeg a0))).toNatClampNeg a1))).toNatClampNeg a2))).toNatClampNeg a3)) ((ko_length (ko_cs_s (ko_bs_s (ko_as__s (ko_numbers_s ko (upd (ko_numbers ko) (ko_length ko).toNatClampNeg a0)) (upd (ko_as_ (ko_numbers_s ko (upd (ko_numbers ko) (ko_length ko).toNatClampNeg a0))) (ko_length (ko_numbers_s ko (upd (ko_numbers ko) (ko_length ko).toNatClampNeg a0))).toNatClampNeg a1)) (upd (ko_bs (ko_as__s (ko_numbers_s ko (upd (ko_numbers ko) (ko_length ko).toNatClampNeg a0)) (upd (ko_as_ (ko_numbers_s ko (upd (ko_numbers ko) (ko_length ko).toNatClampNeg a0))) (ko_length (ko_numbers_s ko (upd (ko_numbers ko) (ko_length ko).toNatClampNeg a0))).toNatClampNeg a1))) (ko_length (ko_as__s (ko_numbers_s ko (upd (ko_numbers ko) (ko_length ko).toNatClampNeg a0)) (upd (ko_as_ (ko_numbers_s ko (upd (ko_numbers ko) (ko_length ko).toNatClampNeg a0))) (ko_length (ko_numbers_s ko (upd (ko_numbers ko) (ko_length ko).toNatClampNeg a0))).toNatClampNeg a1))).toNatClampNeg a2)) (upd (ko_cs (ko_bs_s (ko_as__s (ko_numbers_s ko (upd (ko_numbers ko) (ko_length ko).toNatClampNeg a0)) (upd (ko_as_ (ko_numbers_s ko (upd (ko_numbers ko) (ko_length ko).toNatClampNeg a0))) (ko_length (ko_numbers_s ko (upd (ko_numbers ko) (ko_length ko).toNatClampNeg a0))).toNatClampNeg a1)) (upd (ko_bs (ko_as__s (ko_numbers_s ko (upd (ko_numbers ko) (ko_length ko).toNatClampNeg a0)) (upd (ko_as_ (ko_numbers_s ko (upd (ko_numbers ko) (ko_length ko).toNatClampNeg a0))) (ko_length (ko_numbers_s ko (upd (ko_numbers ko) (ko_length ko).toNatClampNeg a0))).toNatClampNeg a1))) (ko_length (ko_as__s (ko_numbers_s ko (upd (ko_numbers ko) (ko_length ko).toNatClampNeg a0)) (upd (ko_as_ (ko_numbers_s ko (upd (ko_numbers ko) (ko_length ko).toNatClampNeg a0))) (ko_length (ko_numbers_s ko (upd (ko_numbers ko) (ko_length ko).toNatClampNeg a0))).toNatClampNeg a1))).toNatClampNeg a2))) (ko_length (ko_bs_s (ko_as__s (ko_numbers_s ko (upd (ko_numbers ko) (ko_length ko).toNatClampNeg a0)) (upd (ko_as_ (ko_numbers_s ko (upd (ko_numbers ko) (ko_length ko).toNatClampNeg a0))) (ko_length (ko_numbers_s ko (upd (ko_numbers ko) (ko_length ko).toNatClampNeg a0))).toNatClampNeg a1)) (upd (ko_bs (ko_as__s (ko_numbers_s ko (upd (ko_numbers ko) (ko_length ko).toNatClampNeg a0)) (upd (ko_as_ (ko_numbers_s ko (upd (ko_numbers ko) (ko_length ko).toNatClampNeg a0))) (ko_length (ko_numbers_s ko (upd (ko_numbers ko) (ko_length ko).toNatClampNeg a0))).toNatClampNeg a1))) (ko_length (ko_as__s (ko_numbers_s ko (upd (ko_numbers ko) (ko_length ko).toNatClampNeg a0)) (upd (ko_as_ (ko_numbers_s ko (upd (ko_numbers ko) (ko_length ko).toNatClampNeg a0))) (ko_length (ko_numbers_s ko (upd (ko_numbers ko) (ko_length ko).toNatClampNeg a0))).toNatClampNeg a1))).toNatClampNeg a2))).toNatClampNeg a3))) + (1 : Int32)))) - (1 : Int32)).toNatClampNeg (v8 + (1 : Int32))))) ((ko_units (ko_sizes_s (ko_length_s (ko_cs_s (ko_bs_s (ko_as__s (ko_numbers_s ko (upd (ko_numbers ko) (ko_length ko).toNatClampNeg a0)) (upd (ko_as_ (ko_numbers_s ko (upd (ko_numbers ko) (ko_length ko).toNatClampNeg a0))) (ko_length (ko_numbers_s ko (upd (ko_numbers ko) (ko_length ko).toNatClampNeg a0))).toNatClampNeg a1)) (upd (ko_bs (ko_as__s (ko_numbers_s ko (upd (ko_numbers ko) (ko_length ko).toNatClampNeg a0)) (upd (ko_as_ (ko_numbers_s ko (upd (ko_numbers ko) (ko_length ko).toNatClampNeg a0))) (ko_length (ko_numbers_s ko (upd (ko_numbers ko) (ko_length ko).toNatClampNeg a0))).toNatClampNeg a1))) (ko_length (ko_as__s (ko_numbers_s ko (upd (ko_numbers ko) (ko_length ko).toNatClampNeg a0)) (upd (ko_as_ (ko_numbers_s ko (upd (ko_numbers ko) (ko_length ko).toNatClampNeg a0))) (ko_length (ko_numbers_s ko (upd (ko_numbers ko) (ko_length ko).toNatClampNeg a0))).toNatClampNeg a1))).toNatClampNeg a2)) (upd (ko_cs (ko_bs_s (ko_as__s (ko_numbers_s ko (upd (ko_numbers ko) (ko_length ko).toNatClampNeg a0)) (upd (ko_as_ (ko_numbers_s ko (upd (ko_numbers ko) (ko_length ko).toNatClampNeg a0))) (ko_length (ko_numbers_s ko (upd (ko_numbers ko) (ko_length ko).toNatClampNeg a0))).toNatClampNeg a1)) (upd (ko_bs (ko_as__s (ko_numbers_s ko (upd (ko_numbers ko) (ko_length ko).toNatClampNeg a0)) (upd (ko_as_ (ko_numbers_s ko (upd (ko_numbers ko) (ko_length ko).toNatClampNeg a0))) (ko_length (ko_numbers_s ko (upd (ko_numbers ko) (ko_length ko).toNatClampNeg a0))).toNatClampNeg a1))) (ko_length (ko_as__s (ko_numbers_s ko (upd (ko_numbers ko) (ko_length ko).toNatClampNeg a0)) (upd (ko_as_ (ko_numbers_s ko (upd (ko_numbers ko) (ko_length ko).toNatClampNeg a0))) (ko_length (ko_numbers_s ko (upd (ko_numbers ko) (ko_length ko).toNatClampNeg a0))).toNatClampNeg a1))).toNatClampNeg a2))) (ko_length (ko_bs_s (ko_as__s (ko_numbers_s ko (upd (ko_numbers ko) (ko_length ko).toNatClampNeg a0)) (upd (ko_as_ (ko_numbers_s ko (upd (ko_numbers ko) (ko_length ko).toNatClampNeg a0))) (ko_length (ko_numbers_s ko (upd (ko_numbers ko) (ko_length ko).toNatClampNeg a0))).toNatClampNeg a1)) (upd (ko_bs (ko_as__s (ko_numbers_s ko (upd (ko_numbers ko) (ko_length ko).toNatClampNeg a0)) (upd (ko_as_ (ko_numbers_s ko (upd (ko_numbers ko) (ko_length ko).toNatClampNeg a0))) (ko_length (ko_numbers_s ko (upd (ko_numbers ko) (ko_length ko).toNatClampNeg a0))).toNatClampNeg a1))) (ko_length (ko_as__s (ko_numbers_s ko (upd (ko_numbers ko) (ko_length ko).toNatClampNeg a0)) (upd (ko_as_ (ko_numbers_s ko (upd (ko_numbers ko) (ko_length ko).toNatClampNeg a0))) (ko_length (ko_numbers_s ko (upd (ko_numbers ko) (ko_length ko).toNatClampNeg a0))).toNatClampNeg a1))).toNatClampNeg a2))).toNatClampNeg a3)) ((ko_length (ko_cs_s (ko_bs_s (ko_as__s (ko_numbers_s ko (upd (ko_numbers ko) (ko_length ko).toNatClampNeg a0)) (upd (ko_as_ (ko_numbers_s ko (upd (ko_numbers ko) (ko_length ko).toNatClampNeg a0))) (ko_length (ko_numbers_s ko (upd (ko_numbers ko) (ko_length ko).toNatClampNeg a0))).toNatClampNeg a1)) (upd (ko_bs (ko_as__s (ko_numbers_s ko (upd (ko_numbers ko) (ko_length ko).toNatClampNeg a0)) (upd (ko_as_ (ko_numbers_s ko (upd (ko_numbers ko) (ko_length ko).toNatClampNeg a0))) (ko_length (ko_numbers_s ko (upd (ko_numbers ko) (ko_length ko).toNatClampNeg a0))).toNatClampNeg a1))) (ko_length (ko_as__s (ko_numbers_s ko (upd (ko_numbers ko) (ko_length ko).toNatClampNeg a0)) (upd (ko_as_ (ko_numbers_s ko (upd (ko_numbers ko) (ko_length ko).toNatClampNeg a0))) (ko_length (ko_numbers_s ko (upd (ko_numbers ko) (ko_length ko).toNatClampNeg a0))).toNatClampNeg a1))).toNatClampNeg a2)) (upd (ko_cs (ko_bs_s (ko_as__s (ko_numbers_s ko (upd (ko_numbers ko) (ko_length ko).toNatClampNeg a0)) (upd (ko_as_ (ko_numbers_s ko (upd (ko_numbers ko) (ko_length ko).toNatClampNeg a0))) (ko_length (ko_numbers_s ko (upd (ko_numbers ko) (ko_length ko).toNatClampNeg a0))).toNatClampNeg a1)) (upd (ko_bs (ko_as__s (ko_numbers_s ko (upd (ko_numbers ko) (ko_length ko).toNatClampNeg a0)) (upd (ko_as_ (ko_numbers_s ko (upd (ko_numbers ko) (ko_length ko).toNatClampNeg a0))) (ko_length (ko_numbers_s ko (upd (ko_numbers ko) (ko_length ko).toNatClampNeg a0))).toNatClampNeg a1))) (ko_length (ko_as__s (ko_numbers_s ko (upd (ko_numbers ko) (ko_length ko).toNatClampNeg a0)) (upd (ko_as_ (ko_numbers_s ko (upd (ko_numbers ko) (ko_length ko).toNatClampNeg a0))) (ko_length (ko_numbers_s ko (upd (ko_numbers ko) (ko_length ko).toNatClampNeg a0))).toNatClampNeg a1))).toNatClampNeg a2))) (ko_length (ko_bs_s (ko_as__s (ko_numbers_s ko (upd (ko_numbers ko) (ko_length ko).toNatClampNeg a0)) (upd (ko_as_ (ko_numbers_s ko (upd (ko_numbers ko) (ko_length ko).toNatClampNeg a0))) (ko_length (ko_numbers_s ko (upd (ko_numbers ko) (ko_length ko).toNatClampNeg a0))).toNatClampNeg a1)) (upd (ko_bs (ko_as__s (ko_numbers_s ko (upd (ko_numbers ko) (ko_length ko).toNatClampNeg a0)) (upd (ko_as_ (ko_numbers_s ko (upd (ko_numbers ko) (ko_length ko).toNatClampNeg a0))) (ko_length (ko_numbers_s ko (upd (ko_numbers ko) (ko_length ko).toNatClampNeg a0))).toNatClampNeg a1))) (ko_length (ko_as__s (ko_numbers_s ko (upd (ko_numbers ko) (ko_length ko).toNatClampNeg a0)) (upd (ko_as_ (ko_numbers_s ko (upd (ko_numbers ko) (ko_length ko).toNatClampNeg a0))) (ko_length (ko_numbers_s ko (upd (ko_numbers ko) (ko_length ko).toNatClampNeg a0))).toNatClampNeg a1))).toNatClampNeg a2))).toNatClampNeg a3))) + (1 : Int32))) (upd (ko_sizes (ko_length_s (ko_cs_s (ko_bs_s (ko_as__s (ko_numbers_s ko (upd (ko_numbers ko) (ko_length ko).toNatClampNeg a0)) (upd (ko_as_ (ko_numbers_s ko (upd (ko_numbers ko) (ko_length ko).toNatClampNeg a0))) (ko_length (ko_numbers_s ko (upd (ko_numbers ko) (ko_length ko).toNatClampNeg a0))).toNatClampNeg a1)) (upd (ko_bs (ko_as__s (ko_numbers_s ko (upd (ko_numbers ko) (ko_length ko).toNatClampNeg a0)) (upd (ko_as_ (ko_numbers_s ko (upd (ko_numbers ko) (ko_length ko).toNatClampNeg a0))) (ko_length (ko_numbers_s ko (upd (ko_numbers ko) (ko_length ko).toNatClampNeg a0))).toNatClampNeg a1))) (ko_length (ko_as__s (ko_numbers_s ko (upd (ko_numbers ko) (ko_length ko).toNatClampNeg a0)) (upd (ko_as_ (ko_numbers_s ko (upd (ko_numbers ko) (ko_length ko).toNatClampNeg a0))) (ko_length (ko_numbers_s ko (upd (ko_numbers ko) (ko_length ko).toNatClampNeg a0))).toNatClampNeg a1))).toNatClampNeg a2)) (upd (ko_cs (ko_bs_s (ko_as__s (ko_numbers_s ko (upd (ko_numbers ko) (ko_length ko).toNatClampNeg a0)) (upd (ko_as_ (ko_numbers_s ko (upd (ko_numbers ko) (ko_length ko).toNatClampNeg a0))) (ko_length (ko_numbers_s ko (upd (ko_numbers ko) (ko_length ko).toNatClampNeg a0))).toNatClampNeg a1)) (upd (ko_bs (ko_as__s (ko_numbers_s ko (upd (ko_numbers ko) (ko_length ko).toNatClampNeg a0)) (upd (ko_as_ (ko_numbers_s ko (upd (ko_numbers ko) (ko_length ko).toNatClampNeg a0))) (ko_length (ko_numbers_s ko (upd (ko_numbers ko) (ko_length ko).toNatClampNeg a0))).toNatClampNeg a1))) (ko_length (ko_as__s (ko_numbers_s ko (upd (ko_numbers ko) (ko_length ko).toNatClampNeg a0)) (upd (ko_as_ (ko_numbers_s ko (upd (ko_numbers ko) (ko_length ko).toNatClampNeg a0))) (ko_length (ko_numbers_s ko (upd (ko_numbers ko) (ko_length ko).toNatClampNeg a0))).toNatClampNeg a1))).toNatClampNeg a2))) (ko_length (ko_bs_s (ko_as__s (ko_numbers_s ko (upd (ko_numbers ko) (ko_length ko).toNatClampNeg a0)) (upd (ko_as_ (ko_numbers_s ko (upd (ko_numbers ko) (ko_length ko).toNatClampNeg a0))) (ko_length (ko_numbers_s ko (upd (ko_numbers ko) (ko_length ko).toNatClampNeg a0))).toNatClampNeg a1)) (upd (ko_bs (ko_as__s (ko_numbers_s ko (upd (ko_numbers ko) (ko_length ko).toNatClampNeg a0)) (upd (ko_as_ (ko_numbers_s ko (upd (ko_numbers ko) (ko_length ko).toNatClampNeg a0))) (ko_length (ko_numbers_s ko (upd (ko_numbers ko) (ko_length ko).toNatClampNeg a0))).toNatClampNeg a1))) (ko_length (ko_as__s (ko_numbers_s ko (upd (ko_numbers ko) (ko_length ko).toNatClampNeg a0)) (upd (ko_as_ (ko_numbers_s ko (upd (ko_numbers ko) (ko_length ko).toNatClampNeg a0))) (ko_length (ko_numbers_s ko (upd (ko_numbers ko) (ko_length ko).toNatClampNeg a0))).toNatClampNeg a1))).toNatClampNeg a2))).toNatClampNeg a3)) ((ko_length (ko_cs_s (ko_bs_s (ko_as__s (ko_numbers_s ko (upd (ko_numbers ko) (ko_length ko).toNatClampNeg a0)) (upd (ko_as_ (ko_numbers_s ko (upd (ko_numbers ko) (ko_length ko).toNatClampNeg a0))) (ko_length (ko_numbers_s ko (upd (ko_numbers ko) (ko_length ko).toNatClampNeg a0))).toNatClampNeg a1)) (upd (ko_bs (ko_as__s (ko_numbers_s ko (upd (ko_numbers ko) (ko_length ko).toNatClampNeg a0)) (upd (ko_as_ (ko_numbers_s ko (upd (ko_numbers ko) (ko_length ko).toNatClampNeg a0))) (ko_length (ko_numbers_s ko (upd (ko_numbers ko) (ko_length ko).toNatClampNeg a0))).toNatClampNeg a1))) (ko_length (ko_as__s (ko_numbers_s ko (upd (ko_numbers ko) (ko_length ko).toNatClampNeg a0)) (upd (ko_as_ (ko_numbers_s ko (upd (ko_numbers ko) (ko_length ko).toNatClampNeg a0))) (ko_length (ko_numbers_s ko (upd (ko_numbers ko) (ko_length ko).toNatClampNeg a0))).toNatClampNeg a1))).toNatClampNeg a2)) (upd (ko_cs (ko_bs_s (ko_as__s (ko_numbers_s ko (upd (ko_numbers ko) (ko_length ko).toNatClampNeg a0)) (upd (ko_as_ (ko_numbers_s ko (upd (ko_numbers ko) (ko_length ko).toNatClampNeg a0))) (ko_length (ko_numbers_s ko (upd (ko_numbers ko) (ko_length ko).toNatClampNeg a0))).toNatClampNeg a1)) (upd (ko_bs (ko_as__s (ko_numbers_s ko (upd (ko_numbers ko) (ko_length ko).toNatClampNeg a0)) (upd (ko_as_ (ko_numbers_s ko (upd (ko_numbers ko) (ko_length ko).toNatClampNeg a0))) (ko_length (ko_numbers_s ko (upd (ko_numbers ko) (ko_length ko).toNatClampNeg a0))).toNatClampNeg a1))) (ko_length (ko_as__s (ko_numbers_s ko (upd (ko_numbers ko) (ko_length ko).toNatClampNeg a0)) (upd (ko_as_ (ko_numbers_s ko (upd (ko_numbers ko) (ko_length ko).toNatClampNeg a0))) (ko_length (ko_numbers_s ko (upd (ko_numbers ko) (ko_length ko).toNatClampNeg a0))).toNatClampNeg a1))).toNatClampNeg a2))) (ko_length (ko_bs_s (ko_as__s (ko_numbers_s ko (upd (ko_numbers ko) (ko_length ko).toNatClampNeg a0)) (upd (ko_as_ (ko_numbers_s ko (upd (ko_numbers ko) (ko_length ko).toNatClampNeg a0))) (ko_length (ko_numbers_s ko (upd (ko_numbers ko) (ko_length ko).toNatClampNeg a0))).toNatClampNeg a1)) (upd (ko_bs (ko_as__s (ko_numbers_s ko (upd (ko_numbers ko) (ko_length ko).toNatClampNeg a0)) (upd (ko_as_ (ko_numbers_s ko (upd (ko_numbers ko) (ko_length ko).toNatClampNeg a0))) (ko_length (ko_numbers_s ko (upd (ko_numbers ko) (ko_length ko).toNatClampNeg a0))).toNatClampNeg a1))) (ko_length (ko_as__s (ko_numbers_s ko (upd (ko_numbers ko) (ko_length ko).toNatClampNeg a0)) (upd (ko_as_ (ko_numbers_s ko (upd (ko_numbers ko) (ko_length ko).toNatClampNeg a0))) (ko_length (ko_numbers_s ko (upd (ko_numbers ko) (ko_length ko).toNatClampNeg a0))).toNatClampNeg a1))).toNatClampNeg a2))).toNatClampNeg a3))) + (1 : Int32)))) ((ko_units (ko_length_s (ko_cs_s (ko_bs_s (ko_as__s (ko_numbers_s ko (upd (ko_numbers ko) (ko_length ko).toNatClampNeg a0)) (upd (ko_as_ (ko_numbers_s ko (upd (ko_numbers ko) (ko_length ko).toNatClampNeg a0))) (ko_length (ko_numbers_s ko (upd (ko_numbers ko) (ko_length ko).toNatClampNeg a0))).toNatClampNeg a1)) (upd (ko_bs (ko_as__s (ko_numbers_s ko (upd (ko_numbers ko) (ko_length ko).toNatClampNeg a0)) (upd (ko_as_ (ko_numbers_s ko (upd (ko_numbers ko) (ko_length ko).toNatClampNeg a0))) (ko_length (ko_numbers_s ko (upd (ko_numbers ko) (ko_length ko).toNatClampNeg a0))).toNatClampNeg a1))) (ko_length (ko_as__s (ko_numbers_s ko (upd (ko_numbers ko) (ko_length ko).toNatClampNeg a0)) (upd (ko_as_ (ko_numbers_s ko (upd (ko_numbers ko) (ko_length ko).toNatClampNeg a0))) (ko_length (ko_numbers_s ko (upd (ko_numbers ko) (ko_length ko).toNatClampNeg a0))).toNatClampNeg a1))).toNatClampNeg a2)) (upd (ko_cs (ko_bs_s (ko_as__s (ko_numbers_s ko (upd (ko_numbers ko) (ko_length ko).toNatClampNeg a0)) (upd (ko_as_ (ko_numbers_s ko (upd (ko_numbers ko) (ko_length ko).toNatClampNeg a0))) (ko_length (ko_numbers_s ko (upd (ko_numbers ko) (ko_length ko).toNatClampNeg a0))).toNatClampNeg a1)) (upd (ko_bs (ko_as__s (ko_numbers_s ko (upd (ko_numbers ko) (ko_length ko).toNatClampNeg a0)) (upd (ko_as_ (ko_numbers_s ko (upd (ko_numbers ko) (ko_length ko).toNatClampNeg a0))) (ko_length (ko_numbers_s ko (upd (ko_numbers ko) (ko_length ko).toNatClampNeg a0))).toNatClampNeg a1))) (ko_length (ko_as__s (ko_numbers_s ko (upd (ko_numbers ko) (ko_length ko).toNatClampNeg a0)) (upd (ko_as_ (ko_numbers_s ko (upd (ko_numbers ko) (ko_length ko).toNatClampNeg a0))) (ko_length (ko_numbers_s ko (upd (ko_numbers ko) (ko_length ko).toNatClampNeg a0))).toNatClampNeg a1))).toNatClampNeg a2))) (ko_length (ko_bs_s (ko_as__s (ko_numbers_s ko (upd (ko_numbers ko) (ko_length ko).toNatClampNeg a0)) (upd (ko_as_ (ko_numbers_s ko (upd (ko_numbers ko) (ko_length ko).toNatClampNeg a0))) (ko_length (ko_numbers_s ko (upd (ko_numbers ko) (ko_length ko).toNatClampNeg a0))).toNatClampNeg a1)) (upd (ko_bs (ko_as__s (ko_numbers_s ko (upd (ko_numbers ko) (ko_length ko).toNatClampNeg a0)) (upd (ko_as_ (ko_numbers_s ko (upd (ko_numbers ko) (ko_length ko).toNatClampNeg a0))) (ko_length (ko_numbers_s ko (upd (ko_numbers ko) (ko_length ko).toNatClampNeg a0))).toNatClampNeg a1))) (ko_length (ko_as__s (ko_numbers_s ko (upd (ko_numbers ko) (ko_length ko).toNatClampNeg a0)) (upd (ko_as_ (ko_numbers_s ko (upd (ko_numbers ko) (ko_length ko).toNatClampNeg a0))) (ko_length (ko_numbers_s ko (upd (ko_numbers ko) (ko_length ko).toNatClampNeg a0))).toNatClampNeg a1))).toNatClampNeg a2))).toNatClampNeg a3)) ((ko_length (ko_cs_s (ko_bs_s (ko_as__s (ko_numbers_s ko (upd (ko_numbers ko) (ko_length ko).toNatClampNeg a0)) (upd (ko_as_ (ko_numbers_s ko (upd (ko_numbers ko) (ko_length ko).toNatClampNeg a0))) (ko_length (ko_numbers_s ko (upd (ko_numbers ko) (ko_length ko).toNatClampNeg a0))).toNatClampNeg a1)) (upd (ko_bs (ko_as__s (ko_numbers_s ko (upd (ko_numbers ko) (ko_length ko).toNatClampNeg a0)) (upd (ko_as_ (ko_numbers_s ko (upd (ko_numbers ko) (ko_length ko).toNatClampNeg a0))) (ko_length (ko_numbers_s ko (upd (ko_numbers ko) (ko_length ko).toNatClampNeg a0))).toNatClampNeg a1))) (ko_length (ko_as__s (ko_numbers_s ko (upd (ko_numbers ko) (ko_length ko).toNatClampNeg a0)) (upd (ko_as_ (ko_numbers_s ko (upd (ko_numbers ko) (ko_length ko).toNatClampNeg a0))) (ko_length (ko_numbers_s ko (upd (ko_numbers ko) (ko_length ko).toNatClampNeg a0))).toNatClampNeg a1))).toNatClampNeg a2)) (upd (ko_cs (ko_bs_s (ko_as__s (ko_numbers_s ko (upd (ko_numbers ko) (ko_length ko).toNatClampNeg a0)) (upd (ko_as_ (ko_numbers_s ko (upd (ko_numbers ko) (ko_length ko).toNatClampNeg a0))) (ko_length (ko_numbers_s ko (upd (ko_numbers ko) (ko_length ko).toNatClampNeg a0))).toNatClampNeg a1)) (upd (ko_bs (ko_as__s (ko_numbers_s ko (upd (ko_numbers ko) (ko_length ko).toNatClampNeg a0)) (upd (ko_as_ (ko_numbers_s ko (upd (ko_numbers ko) (ko_length ko).toNatClampNeg a0))) (ko_length (ko_numbers_s ko (upd (ko_numbers ko) (ko_length ko).toNatClampNeg a0))).toNatClampNeg a1))) (ko_length (ko_as__s (ko_numbers_s ko (upd (ko_numbers ko) (ko_length ko).toNatClampNeg a0)) (upd (ko_as_ (ko_numbers_s ko (upd (ko_numbers ko) (ko_length ko).toNatClampNeg a0))) (ko_length (ko_numbers_s ko (upd (ko_numbers ko) (ko_length ko).toNatClampNeg a0))).toNatClampNeg a1))).toNatClampNeg a2))) (ko_length (ko_bs_s (ko_as__s (ko_numbers_s ko (upd (ko_numbers ko) (ko_length ko).toNatClampNeg a0)) (upd (ko_as_ (ko_numbers_s ko (upd (ko_numbers ko) (ko_length ko).toNatClampNeg a0))) (ko_length (ko_numbers_s ko (upd (ko_numbers ko) (ko_length ko).toNatClampNeg a0))).toNatClampNeg a1)) (upd (ko_bs (ko_as__s (ko_numbers_s ko (upd (ko_numbers ko) (ko_length ko).toNatClampNeg a0)) (upd (ko_as_ (ko_numbers_s ko (upd (ko_numbers ko) (ko_length ko).toNatClampNeg a0))) (ko_length (ko_numbers_s ko (upd (ko_numbers ko) (ko_length ko).toNatClampNeg a0))).toNatClampNeg a1))) (ko_length (ko_as__s (ko_numbers_s ko (upd (ko_numbers ko) (ko_length ko).toNatClampNeg a0)) (upd (ko_as_ (ko_numbers_s ko (upd (ko_numbers ko) (ko_length ko).toNatClampNeg a0))) (ko_length (ko_numbers_s ko (upd (ko_numbers ko) (ko_length ko).toNatClampNeg a0))).toNatClampNeg a1))).toNatClampNeg a2))).toNatClampNeg a3))) + (1 : Int32)))) - (1 : Int32)).toNatClampNeg (v8 + (1 : Int32))))) - (1 : Int32)) 16 (fun v11 => some ((v11 - (1 : Int32)), (ko_sizes_s (ko_length_s (ko_cs_s (ko_bs_s (ko_as__s (ko_numbers_s ko (upd (ko_numbers ko) (ko_length ko).toNatClampNeg a0)) (upd (ko_as_ (ko_numbers_s ko (upd (ko_numbers ko) (ko_length ko).toNatClampNeg a0))) (ko_length (ko_numbers_s ko (upd (ko_numbers ko) (ko_length ko).toNatClampNeg a0))).toNatClampNeg a1)) (upd (ko_bs (ko_as__s (ko_numbers_s ko (upd (ko_numbers ko) (ko_length ko).toNatClampNeg a0)) (upd (ko_as_ (ko_numbers_s ko (upd (ko_numbers ko) (ko_length ko).toNatClampNeg a0))) (ko_length (ko_numbers_s ko (upd (ko_numbers ko) (ko_length ko).toNatClampNeg a0))).toNatClampNeg a1))) (ko_length (ko_as__s (ko_numbers_s ko (upd (ko_numbers ko) (ko_length ko).toNatClampNeg a0)) (upd (ko_as_ (ko_numbers_s ko (upd (ko_numbers ko) (ko_length ko).toNatClampNeg a0))) (ko_length (ko_numbers_s ko (upd (ko_numbers ko) (ko_length ko).toNatClampNeg a0))).toNatClampNeg a1))).toNatClampNeg a2)) (upd (ko_cs (ko_bs_s (ko_as__s (ko_numbers_s ko (upd (ko_numbers ko) (ko_length ko).toNatClampNeg a0)) (upd (ko_as_ (ko_numbers_s ko (upd (ko_numbers ko) (ko_length ko).toNatClampNeg a0))) (ko_length (ko_numbers_s ko (upd (ko_numbers ko) (ko_length ko).toNatClampNeg a0))).toNatClampNeg a1)) (upd (ko_bs (ko_as__s (ko_numbers_s ko (upd (ko_numbers ko) (ko_length ko).toNatClampNeg a0)) (upd (ko_as_ (ko_numbers_s ko (upd (ko_numbers ko) (ko_length ko).toNatClampNeg a0))) (ko_length (ko_numbers_s ko (upd (ko_numbers ko) (ko_length ko).toNatClampNeg a0))).toNatClampNeg a1))) (ko_length (ko_as__s (ko_numbers_s ko (upd (ko_numbers ko) (ko_length ko).toNatClampNeg a0)) (upd (ko_as_ (ko_numbers_s ko (upd (ko_numbers ko) (ko_length ko).toNatClampNeg a0))) (ko_length (ko_numbers_s ko (upd (ko_numbers ko) (ko_length ko).toNatClampNeg a0))).toNatClampNeg a1))).toNatClampNeg a2))) (ko_length (ko_bs_s (ko_as__s (ko_numbers_s ko (upd (ko_numbers ko) (ko_length ko).toNatClampNeg a0)) (upd (ko_as_ (ko_numbers_s ko (upd (ko_numbers ko) (ko_length ko).toNatClampNeg a0))) (ko_length (ko_numbers_s ko (upd (ko_numbers ko) (ko_length ko).toNatClampNeg a0))).toNatClampNeg a1)) (upd (ko_bs (ko_as__s (ko_numbers_s ko (upd (ko_numbers ko) (ko_length ko).toNatClampNeg a0)) (upd (ko_as_ (ko_numbers_s ko (upd (ko_numbers ko) (ko_length ko).toNatClampNeg a0))) (ko_length (ko_numbers_s ko (upd (ko_numbers ko) (ko_length ko).toNatClampNeg a0))).toNatClampNeg a1))) (ko_length (ko_as__s (ko_numbers_s ko (upd (ko_numbers ko) (ko_length ko).toNatClampNeg a0)) (upd (ko_as_ (ko_numbers_s ko (upd (ko_numbers ko) (ko_length ko).toNatClampNeg a0))) (ko_length (ko_numbers_s ko (upd (ko_numbers ko) (ko_length ko).toNatClampNeg a0))).toNatClampNeg a1))).toNatClampNeg a2))).toNatClampNeg a3)) ((ko_length (ko_cs_s (ko_bs_s (ko_as__s (ko_numbers_s ko (upd (ko_numbers ko) (ko_length ko).toNatClampNeg a0)) (upd (ko_as_ (ko_numbers_s ko (upd (ko_numbers ko) (ko_length ko).toNatClampNeg a0))) (ko_length (ko_numbers_s ko (upd (ko_numbers ko) (ko_length ko).toNatClampNeg a0))).toNatClampNeg a1)) (upd (ko_bs (ko_as__s (ko_numbers_s ko (upd (ko_numbers ko) (ko_length ko).toNatClampNeg a0)) (upd (ko_as_ (ko_numbers_s ko (upd (ko_numbers ko) (ko_length ko).toNatClampNeg a0))) (ko_length (ko_numbers_s ko (upd (ko_numbers ko) (ko_length ko).toNatClampNeg a0))).toNatClampNeg a1))) (ko_length (ko_as__s (ko_numbers_s ko (upd (ko_numbers ko) (ko_length ko).toNatClampNeg a0)) (upd (ko_as_ (ko_numbers_s ko (upd (ko_numbers ko) (ko_length ko).toNatClampNeg a0))) (ko_length (ko_numbers_s ko (upd (ko_numbers ko) (ko_length ko).toNatClampNeg a0))).toNatClampNeg a1))).toNatClampNeg a2)) (upd (ko_cs (ko_bs_s (ko_as__s (ko_numbers_s ko (upd (ko_numbers ko) (ko_length ko).toNatClampNeg a0)) (upd (ko_as_ (ko_numbers_s ko (upd (ko_numbers ko) (ko_length ko).toNatClampNeg a0))) (ko_length (ko_numbers_s ko (upd (ko_numbers ko) (ko_length ko).toNatClampNeg a0))).toNatClampNeg a1)) (upd (ko_bs (ko_as__s (ko_numbers_s ko (upd (ko_numbers ko) (ko_length ko).toNatClampNeg a0)) (upd (ko_as_ (ko_numbers_s ko (upd (ko_numbers ko) (ko_length ko).toNatClampNeg a0))) (ko_length (ko_numbers_s ko (upd (ko_numbers ko) (ko_length ko).toNatClampNeg a0))).toNatClampNeg a1))) (ko_length (ko_as__s (ko_numbers_s ko (upd (ko_numbers ko) (ko_length ko).toNatClampNeg a0)) (upd (ko_as_ (ko_numbers_s ko (upd (ko_numbers ko) (ko_length ko).toNatClampNeg a0))) (ko_length (ko_numbers_s ko (upd (ko_numbers ko) (ko_length ko).toNatClampNeg a0))).toNatClampNeg a1))).toNatClampNeg a2))) (ko_length (ko_bs_s (ko_as__s (ko_numbers_s ko (upd (ko_numbers ko) (ko_length ko).toNatClampNeg a0)) (upd (ko_as_ (ko_numbers_s ko (upd (ko_numbers ko) (ko_length ko).toNatClampNeg a0))) (ko_length (ko_numbers_s ko (upd (ko_numbers ko) (ko_length ko).toNatClampNeg a0))).toNatClampNeg a1)) (upd (ko_bs (ko_as__s (ko_numbers_s ko (upd (ko_numbers ko) (ko_length ko).toNatClampNeg a0)) (upd (ko_as_ (ko_numbers_s ko (upd (ko_numbers ko) (ko_length ko).toNatClampNeg a0))) (ko_length (ko_numbers_s ko (upd (ko_numbers ko) (ko_length ko).toNatClampNeg a0))).toNatClampNeg a1))) (ko_length (ko_as__s (ko_numbers_s ko (upd (ko_numbers ko) (ko_length ko).toNatClampNeg a0)) (upd (ko_as_ (ko_numbers_s ko (upd (ko_numbers ko) (ko_length ko).toNatClampNeg a0))) (ko_length (ko_numbers_s ko (upd (ko_numbers ko) (ko_length ko).toNatClampNeg a0))).toNatClampNeg a1))).toNatClampNeg a2))).toNatClampNeg a3))) + (1 : Int32))) (upd (ko_sizes (ko_length_s (ko_cs_s (ko_bs_s (ko_as__s (ko_numbers_s ko (upd (ko_numbers ko) (ko_length ko).toNatClampNeg a0)) (upd (ko_as_ (ko_numbers_s ko (upd (ko_numbers ko) (ko_length ko).toNatClampNeg a0))) (ko_length (ko_numbers_s ko (upd (ko_numbers ko) (ko_length ko).toNatClampNeg a0))).toNatClampNeg a1)) (upd (ko_bs (ko_as__s (ko_numbers_s ko (upd (ko_numbers ko) (ko_length ko).toNatClampNeg a0)) (upd (ko_as_ (ko_numbers_s ko (upd (ko_numbers ko) (ko_length ko).toNatClampNeg a0))) (ko_length (ko_numbers_s ko (upd (ko_numbers ko) (ko_length ko).toNatClampNeg a0))).toNatClampNeg a1))) (ko_length (ko_as__s (ko_numbers_s ko (upd (ko_numbers ko) (ko_length ko).toNatClampNeg a0)) (upd (ko_as_ (ko_numbers_s ko (upd (ko_numbers ko) (ko_length ko).toNatClampNeg a0))) (ko_length (ko_numbers_s ko (upd (ko_numbers ko) (ko_length ko).toNatClampNeg a0))).toNatClampNeg a1))).toNatClampNeg a2)) (upd (ko_cs (ko_bs_s (ko_as__s (ko_numbers_s ko (upd (ko_numbers ko) (ko_length ko).toNatClampNeg a0)) (upd (ko_as_ (ko_numbers_s ko (upd (ko_numbers ko) (ko_length ko).toNatClampNeg a0))) (ko_length (ko_numbers_s ko (upd (ko_numbers ko) (ko_length ko).toNatClampNeg a0))).toNatClampNeg a1)) (upd (ko_bs (ko_as__s (ko_numbers_s ko (upd (ko_numbers ko) (ko_length ko).toNatClampNeg a0)) (upd (ko_as_ (ko_numbers_s ko (upd (ko_numbers ko) (ko_length ko).toNatClampNeg a0))) (ko_length (ko_numbers_s ko (upd (ko_numbers ko) (ko_length ko).toNatClampNeg a0))).toNatClampNeg a1))) (ko_length (ko_as__s (ko_numbers_s ko (upd (ko_numbers ko) (ko_length ko).toNatClampNeg a0)) (upd (ko_as_ (ko_numbers_s ko (upd (ko_numbers ko) (ko_length ko).toNatClampNeg a0))) (ko_length (ko_numbers_s ko (upd (ko_numbers ko) (ko_length ko).toNatClampNeg a0))).toNatClampNeg a1))).toNatClampNeg a2))) (ko_length (ko_bs_s (ko_as__s (ko_numbers_s ko (upd (ko_numbers ko) (ko_length ko).toNatClampNeg a0)) (upd (ko_as_ (ko_numbers_s ko (upd (ko_numbers ko) (ko_length ko).toNatClampNeg a0))) (ko_length (ko_numbers_s ko (upd (ko_numbers ko) (ko_length ko).toNatClampNeg a0))).toNatClampNeg a1)) (upd (ko_bs (ko_as__s (ko_numbers_s ko (upd (ko_numbers ko) (ko_length ko).toNatClampNeg a0)) (upd (ko_as_ (ko_numbers_s ko (upd (ko_numbers ko) (ko_length ko).toNatClampNeg a0))) (ko_length (ko_numbers_s ko (upd (ko_numbers ko) (ko_length ko).toNatClampNeg a0))).toNatClampNeg a1))) (ko_length (ko_as__s (ko_numbers_s ko (upd (ko_numbers ko) (ko_length ko).toNatClampNeg a0)) (upd (ko_as_ (ko_numbers_s ko (upd (ko_numbers ko) (ko_length ko).toNatClampNeg a0))) (ko_length (ko_numbers_s ko (upd (ko_numbers ko) (ko_length ko).toNatClampNeg a0))).toNatClampNeg a1))).toNatClampNeg a2))).toNatClampNeg a3)) ((ko_length (ko_cs_s (ko_bs_s (ko_as__s (ko_numbers_s ko (upd (ko_numbers ko) (ko_length ko).toNatClampNeg a0)) (upd (ko_as_ (ko_numbers_s ko (upd (ko_numbers ko) (ko_length ko).toNatClampNeg a0))) (ko_length (ko_numbers_s ko (upd (ko_numbers ko) (ko_length ko).toNatClampNeg a0))).toNatClampNeg a1)) (upd (ko_bs (ko_as__s (ko_numbers_s ko (upd (ko_numbers ko) (ko_length ko).toNatClampNeg a0)) (upd (ko_as_ (ko_numbers_s ko (upd (ko_numbers ko) (ko_length ko).toNatClampNeg a0))) (ko_length (ko_numbers_s ko (upd (ko_numbers ko) (ko_length ko).toNatClampNeg a0))).toNatClampNeg a1))) (ko_length (ko_as__s (ko_numbers_s ko (upd (ko_numbers ko) (ko_length ko).toNatClampNeg a0)) (upd (ko_as_ (ko_numbers_s ko (upd (ko_numbers ko) (ko_length ko).toNatClampNeg a0))) (ko_length (ko_numbers_s ko (upd (ko_numbers ko) (ko_length ko).toNatClampNeg a0))).toNatClampNeg a1))).toNatClampNeg a2)) (upd (ko_cs (ko_bs_s (ko_as__s (ko_numbers_s ko (upd (ko_numbers ko) (ko_length ko).toNatClampNeg a0)) (upd (ko_as_ (ko_numbers_s ko (upd (ko_numbers ko) (ko_length ko).toNatClampNeg a0))) (ko_length (ko_numbers_s ko (upd (ko_numbers ko) (ko_length ko).toNatClampNeg a0))).toNatClampNeg a1)) (upd (ko_bs (ko_as__s (ko_numbers_s ko (upd (ko_numbers ko) (ko_length ko).toNatClampNeg a0)) (upd (ko_as_ (ko_numbers_s ko (upd (ko_numbers ko) (ko_length ko).toNatClampNeg a0))) (ko_length (ko_numbers_s ko (upd (ko_numbers ko) (ko_length ko).toNatClampNeg a0))).toNatClampNeg a1))) (ko_length (ko_as__s (ko_numbers_s ko (upd (ko_numbers ko) (ko_length ko).toNatClampNeg a0)) (upd (ko_as_ (ko_numbers_s ko (upd (ko_numbers ko) (ko_length ko).toNatClampNeg a0))) (ko_length (ko_numbers_s ko (upd (ko_numbers ko) (ko_length ko).toNatClampNeg a0))).toNatClampNeg a1))).toNatClampNeg a2))) (ko_length (ko_bs_s (ko_as__s (ko_numbers_s ko (upd (ko_numbers ko) (ko_length ko).toNatClampNeg a0)) (upd (ko_as_ (ko_numbers_s ko (upd (ko_numbers ko) (ko_length ko).toNatClampNeg a0))) (ko_length (ko_numbers_s ko (upd (ko_numbers ko) (ko_length ko).toNatClampNeg a0))).toNatClampNeg a1)) (upd (ko_bs (ko_as__s (ko_numbers_s ko (upd (ko_numbers ko) (ko_length ko).toNatClampNeg a0)) (upd (ko_as_ (ko_numbers_s ko (upd (ko_numbers ko) (ko_length ko).toNatClampNeg a0))) (ko_length (ko_numbers_s ko (upd (ko_numbers ko) (ko_length ko).toNatClampNeg a0))).toNatClampNeg a1))) (ko_length (ko_as__s (ko_numbers_s ko (upd (ko_numbers ko) (ko_length ko).toNatClampNeg a0)) (upd (ko_as_ (ko_numbers_s ko (upd (ko_numbers ko) (ko_length ko).toNatClampNeg a0))) (ko_length (ko_numbers_s ko (upd (ko_numbers ko) (ko_length ko).toNatClampNeg a0))).toNatClampNeg a1))).toNatClampNeg a2))).toNatClampNeg a3))) + (1 : Int32)))) ((ko_units (ko_length_s (ko_cs_s (ko_bs_s (ko_as__s (ko_numbers_s ko (upd (ko_numbers ko) (ko_length ko).toNatClampNeg a0)) (upd (ko_as_ (ko_numbers_s ko (upd (ko_numbers ko) (ko_length ko).toNatClampNeg a0))) (ko_length (ko_numbers_s ko (upd (ko_numbers ko) (ko_length ko).toNatClampNeg a0))).toNatClampNeg a1)) (upd (ko_bs (ko_as__s (ko_numbers_s ko (upd (ko_numbers ko) (ko_length ko).toNatClampNeg a0)) (upd (ko_as_ (ko_numbers_s ko (upd (ko_numbers ko) (ko_length ko).toNatClampNeg a0))) (ko_length (ko_numbers_s ko (upd (ko_numbers ko) (ko_length ko).toNatClampNeg a0))).toNatClampNeg a1))) (ko_length (ko_as__s (ko_numbers_s ko (upd (ko_numbers ko) (ko_length ko).toNatClampNeg a0)) (upd (ko_as_ (ko_numbers_s ko (upd (ko_numbers ko) (ko_length ko).toNatClampNeg a0))) (ko_length (ko_numbers_s ko (upd (ko_numbers ko) (ko_length ko).toNatClampNeg a0))).toNatClampNeg a1))).toNatClampNeg a2)) (upd (ko_cs (ko_bs_s (ko_as__s (ko_numbers_s ko (upd (ko_numbers ko) (ko_length ko).toNatClampNeg a0)) (upd (ko_as_ (ko_numbers_s ko (upd (ko_numbers ko) (ko_length ko).toNatClampNeg a0))) (ko_length (ko_numbers_s ko (upd (ko_numbers ko) (ko_length ko).toNatClampNeg a0))).toNatClampNeg a1)) (upd (ko_bs (ko_as__s (ko_numbers_s ko (upd (ko_numbers ko) (ko_length ko).toNatClampNeg a0)) (upd (ko_as_ (ko_numbers_s ko (upd (ko_numbers ko) (ko_length ko).toNatClampNeg a0))) (ko_length (ko_numbers_s ko (upd (ko_numbers ko) (ko_length ko).toNatClampNeg a0))).toNatClampNeg a1))) (ko_length (ko_as__s (ko_numbers_s ko (upd (ko_numbers ko) (ko_length ko).toNatClampNeg a0)) (upd (ko_as_ (ko_numbers_s ko (upd (ko_numbers ko) (ko_length ko).toNatClampNeg a0))) (ko_length (ko_numbers_s ko (upd (ko_numbers ko) (ko_length ko).toNatClampNeg a0))).toNatClampNeg a1))).toNatClampNeg a2))) (ko_length (ko_bs_s (ko_as__s (ko_numbers_s ko (upd (ko_numbers ko) (ko_length ko).toNatClampNeg a0)) (upd (ko_as_ (ko_numbers_s ko (upd (ko_numbers ko) (ko_length ko).toNatClampNeg a0))) (ko_length (ko_numbers_s ko (upd (ko_numbers ko) (ko_length ko).toNatClampNeg a0))).toNatClampNeg a1)) (upd (ko_bs (ko_as__s (ko_numbers_s ko (upd (ko_numbers ko) (ko_length ko).toNatClampNeg a0)) (upd (ko_as_ (ko_numbers_s ko (upd (ko_numbers ko) (ko_length ko).toNatClampNeg a0))) (ko_length (ko_numbers_s ko (upd (ko_numbers ko) (ko_length ko).toNatClampNeg a0))).toNatClampNeg a1))) (ko_length (ko_as__s (ko_numbers_s ko (upd (ko_numbers ko) (ko_length ko).toNatClampNeg a0)) (upd (ko_as_ (ko_numbers_s ko (upd (ko_numbers ko) (ko_length ko).toNatClampNeg a0))) (ko_length (ko_numbers_s ko (upd (ko_numbers ko) (ko_length ko).toNatClampNeg a0))).toNatClampNeg a1))).toNatClampNeg a2))).toNatClampNeg a3)) ((ko_length (ko_cs_s (ko_bs_s (ko_as__s (ko_numbers_s ko (upd (ko_numbers ko) (ko_length ko).toNatClampNeg a0)) (upd (ko_as_ (ko_numbers_s ko (upd (ko_numbers ko) (ko_length ko).toNatClampNeg a0))) (ko_length (ko_numbers_s ko (upd (ko_numbers ko) (ko_length ko).toNatClampNeg a0))).toNatClampNeg a1)) (upd (ko_bs (ko_as__s (ko_numbers_s ko (upd (ko_numbers ko) (ko_length ko).toNatClampNeg a0)) (upd (ko_as_ (ko_numbers_s ko (upd (ko_numbers ko) (ko_length ko).toNatClampNeg a0))) (ko_length (ko_numbers_s ko (upd (ko_numbers ko) (ko_length ko).toNatClampNeg a0))).toNatClampNeg a1))) (ko_length (ko_as__s (ko_numbers_s ko (upd (ko_numbers ko) (ko_length ko).toNatClampNeg a0)) (upd (ko_as_ (ko_numbers_s ko (upd (ko_numbers ko) (ko_length ko).toNatClampNeg a0))) (ko_length (ko_numbers_s ko (upd (ko_numbers ko) (ko_length ko).toNatClampNeg a0))).toNatClampNeg a1))).toNatClampNeg a2)) (upd (ko_cs (ko_bs_s (ko_as__s (ko_numbers_s ko (upd (ko_numbers ko) (ko_length ko).toNatClampNeg a0)) (upd (ko_as_ (ko_numbers_s ko (upd (ko_numbers ko) (ko_length ko).toNatClampNeg a0))) (ko_length (ko_numbers_s ko (upd (ko_numbers ko) (ko_length ko).toNatClampNeg a0))).toNatClampNeg a1)) (upd (ko_bs (ko_as__s (ko_numbers_s ko (upd (ko_numbers ko) (ko_length ko).toNatClampNeg a0)) (upd (ko_as_ (ko_numbers_s ko (upd (ko_numbers ko) (ko_length ko).toNatClampNeg a0))) (ko_length (ko_numbers_s ko (upd (ko_numbers ko) (ko_length ko).toNatClampNeg a0))).toNatClampNeg a1))) (ko_length (ko_as__s (ko_numbers_s ko (upd (ko_numbers ko) (ko_length ko).toNatClampNeg a0)) (upd (ko_as_ (ko_numbers_s ko (upd (ko_numbers ko) (ko_length ko).toNatClampNeg a0))) (ko_length (ko_numbers_s ko (upd (ko_numbers ko) (ko_length ko).toNatClampNeg a0))).toNatClampNeg a1))).toNatClampNeg a2))) (ko_length (ko_bs_s (ko_as__s (ko_numbers_s ko (upd (ko_numbers ko) (ko_length ko).toNatClampNeg a0)) (upd (ko_as_ (ko_numbers_s ko (upd (ko_numbers ko) (ko_length ko).toNatClampNeg a0))) (ko_length (ko_numbers_s ko (upd (ko_numbers ko) (ko_length ko).toNatClampNeg a0))).toNatClampNeg a1)) (upd (ko_bs (ko_as__s (ko_numbers_s ko (upd (ko_numbers ko) (ko_length ko).toNatClampNeg a0)) (upd (ko_as_ (ko_numbers_s ko (upd (ko_numbers ko) (ko_length ko).toNatClampNeg a0))) (ko_length (ko_numbers_s ko (upd (ko_numbers ko) (ko_length ko).toNatClampNeg a0))).toNatClampNeg a1))) (ko_length (ko_as__s (ko_numbers_s ko (upd (ko_numbers ko) (ko_length ko).toNatClampNeg a0)) (upd (ko_as_ (ko_numbers_s ko (upd (ko_numbers ko) (ko_length ko).toNatClampNeg a0))) (ko_length (ko_numbers_s ko (upd (ko_numbers ko) (ko_length ko).toNatClampNeg a0))).toNatClampNeg a1))).toNatClampNeg a2))).toNatClampNeg a3))) + (1 : Int32)))) - (1 : Int32)).toNatClampNeg (v8 + (1 : Int32)))))))))))))
def rm_Co_appendInstruction : Jvm.Room := { frames := 1, cells := 0, slots := 0, locals := 20 }
set_option maxHeartbeats 4000000 in
set_option maxRecDepth 100000 in
theorem c_Co_appendInstruction {l : Launch} {D : va_G} {cI cL : ClassId} {ad : Nat → Nat} {ma : T_ma} {ko : T_ko} {sh : T_sh} {lo : T_lo} {de : T_de} {wa : T_wa} {me : T_me} {ru : T_ru} {ws0 : va_W} {sz n : Nat} {a0 : Int32} {a1 : Int32} {a2 : Int32} {a3 : Int32} {r9 : Int32} {ko9 : T_ko} (hw : ws0 = (wX cI cL ad ma ko sh lo de wa me ru)) (h : r_Co_appendInstruction n ko a0 a1 a2 a3 = some (r9, ko9)) : Met l y_Co_appendInstruction (Cond.code y_Co_appendInstruction b_Co_appendInstruction 5 (some .int) :: TB) rm_Co_appendInstruction (PreW D clX (tyX cI cL) ws0 [.ref (ad 1), .int a0, .int a1, .int a2, .int a3] sz) (PstI D clX (tyX cI cL) ws0 (wX cI cL ad ma (ko9) sh lo de wa me ru) sz r9) 0 0 (va_A ws0 sz) := by
  refine k_met (by decide) (Nat.le_of_ble_eq_true rfl) ?_
  intro p e s m below meth c ls hx hb hr hml hts hown hlk hnm hsz hP hK hD hA hz hl
  have hP : va_P D clX (wX cI cL ad ma ko sh lo de wa me ru) s.heap := by rw [← hw]; exact hP
  have hD : va_D (va_A ws0 sz) (wX cI cL ad ma ko sh lo de wa me ru) := by rw [← hw]; exact hD
  have hS : va_S (va_A ws0 sz) s.heap s.heap [] := va_S.rf
  have hl : lv_has ls 5 [(0, .ref (ad 1)), (1, .int a0), (2, .int a1), (3, .int a2), (4, .int a3)] := hl
  generalize hQ : MQ below (PstI D clX (tyX cI cL) ws0 (wX cI cL ad ma (ko9) sh lo de wa me ru) sz r9) [.ref (ad 1), .int a0, .int a1, .int a2, .int a3].toArray s 0 0 (va_A ws0 sz) = Q
  unfold r_Co_appendInstruction at h
  refine lv_aload_n hx hb d_Co_appendInstruction_0 rfl (lv_at hl 0 rfl) ?_
  obtain ⟨q1, hq1, h⟩ := Option.bind_eq_some_iff.mp h
  refine k_I (k_runV ⟨hx, hb, hml, hown, hts⟩ (c_Co_hasRoomForInstruction rfl hq1) ok_Co_hasRoomForInstruction is_Co_hasRoomForInstruction lk_311 rfl rfl ⟨by decide, by decide⟩ hP hK hD hS hA hz (ci := 1) (q0 := 1) rfl rfl ob_Co rfl hl.1 rfl (Nat.le_of_ble_eq_true rfl) d_Co_appendInstruction_1 ⟨Nat.zero_le _, Nat.zero_le _⟩) hD hS hA (fun H locs hP hD hS => ?_)
  refine lv_if_ne (tgt := 9) hx hb d_Co_appendInstruction_4 (by decide) (fun c2 => ?_) (fun c2 => ?_)
  · rw [if_neg c2] at h
    refine lv_aload_n hx hb d_Co_appendInstruction_9 rfl (lv_at hl 0 rfl) ?_
    refine rd_Co_numbers hx hb hts hown hK hP lk_32 d_Co_appendInstruction_10 ?_
    refine lv_aload_n hx hb d_Co_appendInstruction_13 rfl (lv_at hl 0 rfl) ?_
    refine rd_Co_length hx hb hts hown hK hP lk_37 (v := (ko_length ko)) rfl d_Co_appendInstruction_14 ?_
    refine lv_iload_n hx hb d_Co_appendInstruction_17 rfl (lv_at hl 1 rfl) ?_
    obtain ⟨hi3, h⟩ := ga_some h
    refine st_Co_numbers hx hb hK hP hD hS hi3 d_Co_appendInstruction_18 (fun H locs hP hD hS => ?_)
    refine lv_aload_n hx hb d_Co_appendInstruction_19 rfl (lv_at hl 0 rfl) ?_
    refine rd_Co_as_ hx hb hts hown hK hP lk_33 d_Co_appendInstruction_20 ?_
    refine lv_aload_n hx hb d_Co_appendInstruction_23 rfl (lv_at hl 0 rfl) ?_
    refine rd_Co_length hx hb hts hown hK hP lk_37 (v := (ko_length (ko_numbers_s ko (upd (ko_numbers ko) (ko_length ko).toNatClampNeg a0)))) rfl d_Co_appendInstruction_24 ?_
    refine lv_iload_n hx hb d_Co_appendInstruction_27 rfl (lv_at hl 2 rfl) ?_
    obtain ⟨hi4, h⟩ := ga_some h
    refine st_Co_as_ hx hb hK hP hD hS hi4 d_Co_appendInstruction_28 (fun H locs hP hD hS => ?_)
    refine lv_aload_n hx hb d_Co_appendInstruction_29 rfl (lv_at hl 0 rfl) ?_
    refine rd_Co_bs hx hb hts hown hK hP lk_34 d_Co_appendInstruction_30 ?_
    refine lv_aload_n hx hb d_Co_appendInstruction_33 rfl (lv_at hl 0 rfl) ?_
    refine rd_Co_length hx hb hts hown hK hP lk_37 (v := (ko_length (ko_as__s (ko_numbers_s ko (upd (ko_numbers ko) (ko_length ko).toNatClampNeg a0)) (upd (ko_as_ (ko_numbers_s ko (upd (ko_numbers ko) (ko_length ko).toNatClampNeg a0))) (ko_length (ko_numbers_s ko (upd (ko_numbers ko) (ko_length ko).toNatClampNeg a0))).toNatClampNeg a1)))) rfl d_Co_appendInstruction_34 ?_
    refine lv_iload_n hx hb d_Co_appendInstruction_37 rfl (lv_at hl 3 rfl) ?_
    obtain ⟨hi5, h⟩ := ga_some h
    refine st_Co_bs hx hb hK hP hD hS hi5 d_Co_appendInstruction_38 (fun H locs hP hD hS => ?_)
    refine lv_aload_n hx hb d_Co_appendInstruction_39 rfl (lv_at hl 0 rfl) ?_
    refine rd_Co_cs hx hb hts hown hK hP lk_35 d_Co_appendInstruction_40 ?_
    refine lv_aload_n hx hb d_Co_appendInstruction_43 rfl (lv_at hl 0 rfl) ?_
    refine rd_Co_length hx hb hts hown hK hP lk_37 (v := (ko_length (ko_bs_s (ko_as__s (ko_numbers_s ko (upd (ko_numbers ko) (ko_length ko).toNatClampNeg a0)) (upd (ko_as_ (ko_numbers_s ko (upd (ko_numbers ko) (ko_length ko).toNatClampNeg a0))) (ko_length (ko_numbers_s ko (upd (ko_numbers ko) (ko_length ko).toNatClampNeg a0))).toNatClampNeg a1)) (upd (ko_bs (ko_as__s (ko_numbers_s ko (upd (ko_numbers ko) (ko_length ko).toNatClampNeg a0)) (upd (ko_as_ (ko_numbers_s ko (upd (ko_numbers ko) (ko_length ko).toNatClampNeg a0))) (ko_length (ko_numbers_s ko (upd (ko_numbers ko) (ko_length ko).toNatClampNeg a0))).toNatClampNeg a1))) (ko_length (ko_as__s (ko_numbers_s ko (upd (ko_numbers ko) (ko_length ko).toNatClampNeg a0)) (upd (ko_as_ (ko_numbers_s ko (upd (ko_numbers ko) (ko_length ko).toNatClampNeg a0))) (ko_length (ko_numbers_s ko (upd (ko_numbers ko) (ko_length ko).toNatClampNeg a0))).toNatClampNeg a1))).toNatClampNeg a2)))) rfl d_Co_appendInstruction_44 ?_
    refine lv_iload hx hb d_Co_appendInstruction_47 (lv_at hl 4 rfl) ?_
    obtain ⟨hi6, h⟩ := ga_some h
    refine st_Co_cs hx hb hK hP hD hS hi6 d_Co_appendInstruction_49 (fun H locs hP hD hS => ?_)
    refine lv_aload_n hx hb d_Co_appendInstruction_50 rfl (lv_at hl 0 rfl) ?_
    refine lv_dup hx hb d_Co_appendInstruction_51 rfl ?_
    refine rd_Co_length hx hb hts hown hK hP lk_37 (v := (ko_length (ko_cs_s (ko_bs_s (ko_as__s (ko_numbers_s ko (upd (ko_numbers ko) (ko_length ko).toNatClampNeg a0)) (upd (ko_as_ (ko_numbers_s ko (upd (ko_numbers ko) (ko_length ko).toNatClampNeg a0))) (ko_length (ko_numbers_s ko (upd (ko_numbers ko) (ko_length ko).toNatClampNeg a0))).toNatClampNeg a1)) (upd (ko_bs (ko_as__s (ko_numbers_s ko (upd (ko_numbers ko) (ko_length ko).toNatClampNeg a0)) (upd (ko_as_ (ko_numbers_s ko (upd (ko_numbers ko) (ko_length ko).toNatClampNeg a0))) (ko_length (ko_numbers_s ko (upd (ko_numbers ko) (ko_length ko).toNatClampNeg a0))).toNatClampNeg a1))) (ko_length (ko_as__s (ko_numbers_s ko (upd (ko_numbers ko) (ko_length ko).toNatClampNeg a0)) (upd (ko_as_ (ko_numbers_s ko (upd (ko_numbers ko) (ko_length ko).toNatClampNeg a0))) (ko_length (ko_numbers_s ko (upd (ko_numbers ko) (ko_length ko).toNatClampNeg a0))).toNatClampNeg a1))).toNatClampNeg a2)) (upd (ko_cs (ko_bs_s (ko_as__s (ko_numbers_s ko (upd (ko_numbers ko) (ko_length ko).toNatClampNeg a0)) (upd (ko_as_ (ko_numbers_s ko (upd (ko_numbers ko) (ko_length ko).toNatClampNeg a0))) (ko_length (ko_numbers_s ko (upd (ko_numbers ko) (ko_length ko).toNatClampNeg a0))).toNatClampNeg a1)) (upd (ko_bs (ko_as__s (ko_numbers_s ko (upd (ko_numbers ko) (ko_length ko).toNatClampNeg a0)) (upd (ko_as_ (ko_numbers_s ko (upd (ko_numbers ko) (ko_length ko).toNatClampNeg a0))) (ko_length (ko_numbers_s ko (upd (ko_numbers ko) (ko_length ko).toNatClampNeg a0))).toNatClampNeg a1))) (ko_length (ko_as__s (ko_numbers_s ko (upd (ko_numbers ko) (ko_length ko).toNatClampNeg a0)) (upd (ko_as_ (ko_numbers_s ko (upd (ko_numbers ko) (ko_length ko).toNatClampNeg a0))) (ko_length (ko_numbers_s ko (upd (ko_numbers ko) (ko_length ko).toNatClampNeg a0))).toNatClampNeg a1))).toNatClampNeg a2))) (ko_length (ko_bs_s (ko_as__s (ko_numbers_s ko (upd (ko_numbers ko) (ko_length ko).toNatClampNeg a0)) (upd (ko_as_ (ko_numbers_s ko (upd (ko_numbers ko) (ko_length ko).toNatClampNeg a0))) (ko_length (ko_numbers_s ko (upd (ko_numbers ko) (ko_length ko).toNatClampNeg a0))).toNatClampNeg a1)) (upd (ko_bs (ko_as__s (ko_numbers_s ko (upd (ko_numbers ko) (ko_length ko).toNatClampNeg a0)) (upd (ko_as_ (ko_numbers_s ko (upd (ko_numbers ko) (ko_length ko).toNatClampNeg a0))) (ko_length (ko_numbers_s ko (upd (ko_numbers ko) (ko_length ko).toNatClampNeg a0))).toNatClampNeg a1))) (ko_length (ko_as__s (ko_numbers_s ko (upd (ko_numbers ko) (ko_length ko).toNatClampNeg a0)) (upd (ko_as_ (ko_numbers_s ko (upd (ko_numbers ko) (ko_length ko).toNatClampNeg a0))) (ko_length (ko_numbers_s ko (upd (ko_numbers ko) (ko_length ko).toNatClampNeg a0))).toNatClampNeg a1))).toNatClampNeg a2))).toNatClampNeg a3)))) rfl d_Co_appendInstruction_52 ?_
    refine lv_iconst (v := 1) hx hb d_Co_appendInstruction_55 (by decide) ?_
    refine lv_iadd hx hb d_Co_appendInstruction_56 ?_
    refine wr_Co_length hx hb hts hown hK hP hD hS lk_37 d_Co_appendInstruction_57 (fun H locs hP hD hS => ?_)
    refine lv_aload_n hx hb d_Co_appendInstruction_60 rfl (lv_at hl 0 rfl) ?_
    refine rd_Co_sizes hx hb hts hown hK hP lk_31 d_Co_appendInstruction_61 ?_
    refine lv_aload_n hx hb d_Co_appendInstruction_64 rfl (lv_at hl 0 rfl) ?_
    refine rd_Co_units hx hb hts hown hK hP lk_36 (v := (ko_units (ko_length_s (ko_cs_s (ko_bs_s (ko_as__s (ko_numbers_s ko (upd (ko_numbers ko) (ko_length ko).toNatClampNeg a0)) (upd (ko_as_ (ko_numbers_s ko (upd (ko_numbers ko) (ko_length ko).toNatClampNeg a0))) (ko_length (ko_numbers_s ko (upd (ko_numbers ko) (ko_length ko).toNatClampNeg a0))).toNatClampNeg a1)) (upd (ko_bs (ko_as__s (ko_numbers_s ko (upd (ko_numbers ko) (ko_length ko).toNatClampNeg a0)) (upd (ko_as_ (ko_numbers_s ko (upd (ko_numbers ko) (ko_length ko).toNatClampNeg a0))) (ko_length (ko_numbers_s ko (upd (ko_numbers ko) (ko_length ko).toNatClampNeg a0))).toNatClampNeg a1))) (ko_length (ko_as__s (ko_numbers_s ko (upd (ko_numbers ko) (ko_length ko).toNatClampNeg a0)) (upd (ko_as_ (ko_numbers_s ko (upd (ko_numbers ko) (ko_length ko).toNatClampNeg a0))) (ko_length (ko_numbers_s ko (upd (ko_numbers ko) (ko_length ko).toNatClampNeg a0))).toNatClampNeg a1))).toNatClampNeg a2)) (upd (ko_cs (ko_bs_s (ko_as__s (ko_numbers_s ko (upd (ko_numbers ko) (ko_length ko).toNatClampNeg a0)) (upd (ko_as_ (ko_numbers_s ko (upd (ko_numbers ko) (ko_length ko).toNatClampNeg a0))) (ko_length (ko_numbers_s ko (upd (ko_numbers ko) (ko_length ko).toNatClampNeg a0))).toNatClampNeg a1)) (upd (ko_bs (ko_as__s (ko_numbers_s ko (upd (ko_numbers ko) (ko_length ko).toNatClampNeg a0)) (upd (ko_as_ (ko_numbers_s ko (upd (ko_numbers ko) (ko_length ko).toNatClampNeg a0))) (ko_length (ko_numbers_s ko (upd (ko_numbers ko) (ko_length ko).toNatClampNeg a0))).toNatClampNeg a1))) (ko_length (ko_as__s (ko_numbers_s ko (upd (ko_numbers ko) (ko_length ko).toNatClampNeg a0)) (upd (ko_as_ (ko_numbers_s ko (upd (ko_numbers ko) (ko_length ko).toNatClampNeg a0))) (ko_length (ko_numbers_s ko (upd (ko_numbers ko) (ko_length ko).toNatClampNeg a0))).toNatClampNeg a1))).toNatClampNeg a2))) (ko_length (ko_bs_s (ko_as__s (ko_numbers_s ko (upd (ko_numbers ko) (ko_length ko).toNatClampNeg a0)) (upd (ko_as_ (ko_numbers_s ko (upd (ko_numbers ko) (ko_length ko).toNatClampNeg a0))) (ko_length (ko_numbers_s ko (upd (ko_numbers ko) (ko_length ko).toNatClampNeg a0))).toNatClampNeg a1)) (upd (ko_bs (ko_as__s (ko_numbers_s ko (upd (ko_numbers ko) (ko_length ko).toNatClampNeg a0)) (upd (ko_as_ (ko_numbers_s ko (upd (ko_numbers ko) (ko_length ko).toNatClampNeg a0))) (ko_length (ko_numbers_s ko (upd (ko_numbers ko) (ko_length ko).toNatClampNeg a0))).toNatClampNeg a1))) (ko_length (ko_as__s (ko_numbers_s ko (upd (ko_numbers ko) (ko_length ko).toNatClampNeg a0)) (upd (ko_as_ (ko_numbers_s ko (upd (ko_numbers ko) (ko_length ko).toNatClampNeg a0))) (ko_length (ko_numbers_s ko (upd (ko_numbers ko) (ko_length ko).toNatClampNeg a0))).toNatClampNeg a1))).toNatClampNeg a2))).toNatClampNeg a3)) ((ko_length (ko_cs_s (ko_bs_s (ko_as__s (ko_numbers_s ko (upd (ko_numbers ko) (ko_length ko).toNatClampNeg a0)) (upd (ko_as_ (ko_numbers_s ko (upd (ko_numbers ko) (ko_length ko).toNatClampNeg a0))) (ko_length (ko_numbers_s ko (upd (ko_numbers ko) (ko_length ko).toNatClampNeg a0))).toNatClampNeg a1)) (upd (ko_bs (ko_as__s (ko_numbers_s ko (upd (ko_numbers ko) (ko_length ko).toNatClampNeg a0)) (upd (ko_as_ (ko_numbers_s ko (upd (ko_numbers ko) (ko_length ko).toNatClampNeg a0))) (ko_length (ko_numbers_s ko (upd (ko_numbers ko) (ko_length ko).toNatClampNeg a0))).toNatClampNeg a1))) (ko_length (ko_as__s (ko_numbers_s ko (upd (ko_numbers ko) (ko_length ko).toNatClampNeg a0)) (upd (ko_as_ (ko_numbers_s ko (upd (ko_numbers ko) (ko_length ko).toNatClampNeg a0))) (ko_length (ko_numbers_s ko (upd (ko_numbers ko) (ko_length ko).toNatClampNeg a0))).toNatClampNeg a1))).toNatClampNeg a2)) (upd (ko_cs (ko_bs_s (ko_as__s (ko_numbers_s ko (upd (ko_numbers ko) (ko_length ko).toNatClampNeg a0)) (upd (ko_as_ (ko_numbers_s ko (upd (ko_numbers ko) (ko_length ko).toNatClampNeg a0))) (ko_length (ko_numbers_s ko (upd (ko_numbers ko) (ko_length ko).toNatClampNeg a0))).toNatClampNeg a1)) (upd (ko_bs (ko_as__s (ko_numbers_s ko (upd (ko_numbers ko) (ko_length ko).toNatClampNeg a0)) (upd (ko_as_ (ko_numbers_s ko (upd (ko_numbers ko) (ko_length ko).toNatClampNeg a0))) (ko_length (ko_numbers_s ko (upd (ko_numbers ko) (ko_length ko).toNatClampNeg a0))).toNatClampNeg a1))) (ko_length (ko_as__s (ko_numbers_s ko (upd (ko_numbers ko) (ko_length ko).toNatClampNeg a0)) (upd (ko_as_ (ko_numbers_s ko (upd (ko_numbers ko) (ko_length ko).toNatClampNeg a0))) (ko_length (ko_numbers_s ko (upd (ko_numbers ko) (ko_length ko).toNatClampNeg a0))).toNatClampNeg a1))).toNatClampNeg a2))) (ko_length (ko_bs_s (ko_as__s (ko_numbers_s ko (upd (ko_numbers ko) (ko_length ko).toNatClampNeg a0)) (upd (ko_as_ (ko_numbers_s ko (upd (ko_numbers ko) (ko_length ko).toNatClampNeg a0))) (ko_length (ko_numbers_s ko (upd (ko_numbers ko) (ko_length ko).toNatClampNeg a0))).toNatClampNeg a1)) (upd (ko_bs (ko_as__s (ko_numbers_s ko (upd (ko_numbers ko) (ko_length ko).toNatClampNeg a0)) (upd (ko_as_ (ko_numbers_s ko (upd (ko_numbers ko) (ko_length ko).toNatClampNeg a0))) (ko_length (ko_numbers_s ko (upd (ko_numbers ko) (ko_length ko).toNatClampNeg a0))).toNatClampNeg a1))) (ko_length (ko_as__s (ko_numbers_s ko (upd (ko_numbers ko) (ko_length ko).toNatClampNeg a0)) (upd (ko_as_ (ko_numbers_s ko (upd (ko_numbers ko) (ko_length ko).toNatClampNeg a0))) (ko_length (ko_numbers_s ko (upd (ko_numbers ko) (ko_length ko).toNatClampNeg a0))).toNatClampNeg a1))).toNatClampNeg a2))).toNatClampNeg a3))) + (1 : Int32))))) rfl d_Co_appendInstruction_65 ?_
    refine lv_iconst (v := 1) hx hb d_Co_appendInstruction_68 (by decide) ?_
    refine lv_isub hx hb d_Co_appendInstruction_69 ?_
    refine lv_dup2_11 hx hb d_Co_appendInstruction_70 rfl rfl ?_
    obtain ⟨hi7, v8, ev8, h⟩ := gr_some h
    refine ld_Co_sizes hx hb hK hP hi7 ev8 d_Co_appendInstruction_71 ?_
    refine lv_iconst (v := 1) hx hb d_Co_appendInstruction_72 (by decide) ?_
    refine lv_iadd hx hb d_Co_appendInstruction_73 ?_
    obtain ⟨hi9, h⟩ := ga_some h
    refine st_Co_sizes hx hb hK hP hD hS hi9 d_Co_appendInstruction_74 (fun H locs hP hD hS => ?_)
    refine lv_aload_n hx hb d_Co_appendInstruction_75 rfl (lv_at hl 0 rfl) ?_
    refine rd_Co_sizes hx hb hts hown hK hP lk_31 d_Co_appendInstruction_76 ?_
    refine lv_aload_n hx hb d_Co_appendInstruction_79 rfl (lv_at hl 0 rfl) ?_
    refine rd_Co_units hx hb hts hown hK hP lk_36 (v := (ko_units (ko_sizes_s (ko_length_s (ko_cs_s (ko_bs_s (ko_as__s (ko_numbers_s ko (upd (ko_numbers ko) (ko_length ko).toNatClampNeg a0)) (upd (ko_as_ (ko_numbers_s ko (upd (ko_numbers ko) (ko_length ko).toNatClampNeg a0))) (ko_length (ko_numbers_s ko (upd (ko_numbers ko) (ko_length ko).toNatClampNeg a0))).toNatClampNeg a1)) (upd (ko_bs (ko_as__s (ko_numbers_s ko (upd (ko_numbers ko) (ko_length ko).toNatClampNeg a0)) (upd (ko_as_ (ko_numbers_s ko (upd (ko_numbers ko) (ko_length ko).toNatClampNeg a0))) (ko_length (ko_numbers_s ko (upd (ko_numbers ko) (ko_length ko).toNatClampNeg a0))).toNatClampNeg a1))) (ko_length (ko_as__s (ko_numbers_s ko (upd (ko_numbers ko) (ko_length ko).toNatClampNeg a0)) (upd (ko_as_ (ko_numbers_s ko (upd (ko_numbers ko) (ko_length ko).toNatClampNeg a0))) (ko_length (ko_numbers_s ko (upd (ko_numbers ko) (ko_length ko).toNatClampNeg a0))).toNatClampNeg a1))).toNatClampNeg a2)) (upd (ko_cs (ko_bs_s (ko_as__s (ko_numbers_s ko (upd (ko_numbers ko) (ko_length ko).toNatClampNeg a0)) (upd (ko_as_ (ko_numbers_s ko (upd (ko_numbers ko) (ko_length ko).toNatClampNeg a0))) (ko_length (ko_numbers_s ko (upd (ko_numbers ko) (ko_length ko).toNatClampNeg a0))).toNatClampNeg a1)) (upd (ko_bs (ko_as__s (ko_numbers_s ko (upd (ko_numbers ko) (ko_length ko).toNatClampNeg a0)) (upd (ko_as_ (ko_numbers_s ko (upd (ko_numbers ko) (ko_length ko).toNatClampNeg a0))) (ko_length (ko_numbers_s ko (upd (ko_numbers ko) (ko_length ko).toNatClampNeg a0))).toNatClampNeg a1))) (ko_length (ko_as__s (ko_numbers_s ko (upd (ko_numbers ko) (ko_length ko).toNatClampNeg a0)) (upd (ko_as_ (ko_numbers_s ko (upd (ko_numbers ko) (ko_length ko).toNatClampNeg a0))) (ko_length (ko_numbers_s ko (upd (ko_numbers ko) (ko_length ko).toNatClampNeg a0))).toNatClampNeg a1))).toNatClampNeg a2))) (ko_length (ko_bs_s (ko_as__s (ko_numbers_s ko (upd (ko_numbers ko) (ko_length ko).toNatClampNeg a0)) (upd (ko_as_ (ko_numbers_s ko (upd (ko_numbers ko) (ko_length ko).toNatClampNeg a0))) (ko_length (ko_numbers_s ko (upd (ko_numbers ko) (ko_length ko).toNatClampNeg a0))).toNatClampNeg a1)) (upd (ko_bs (ko_as__s (ko_numbers_s ko (upd (ko_numbers ko) (ko_length ko).toNatClampNeg a0)) (upd (ko_as_ (ko_numbers_s ko (upd (ko_numbers ko) (ko_length ko).toNatClampNeg a0))) (ko_length (ko_numbers_s ko (upd (ko_numbers ko) (ko_length ko).toNatClampNeg a0))).toNatClampNeg a1))) (ko_length (ko_as__s (ko_numbers_s ko (upd (ko_numbers ko) (ko_length ko).toNatClampNeg a0)) (upd (ko_as_ (ko_numbers_s ko (upd (ko_numbers ko) (ko_length ko).toNatClampNeg a0))) (ko_length (ko_numbers_s ko (upd (ko_numbers ko) (ko_length ko).toNatClampNeg a0))).toNatClampNeg a1))).toNatClampNeg a2))).toNatClampNeg a3)) ((ko_length (ko_cs_s (ko_bs_s (ko_as__s (ko_numbers_s ko (upd (ko_numbers ko) (ko_length ko).toNatClampNeg a0)) (upd (ko_as_ (ko_numbers_s ko (upd (ko_numbers ko) (ko_length ko).toNatClampNeg a0))) (ko_length (ko_numbers_s ko (upd (ko_numbers ko) (ko_length ko).toNatClampNeg a0))).toNatClampNeg a1)) (upd (ko_bs (ko_as__s (ko_numbers_s ko (upd (ko_numbers ko) (ko_length ko).toNatClampNeg a0)) (upd (ko_as_ (ko_numbers_s ko (upd (ko_numbers ko) (ko_length ko).toNatClampNeg a0))) (ko_length (ko_numbers_s ko (upd (ko_numbers ko) (ko_length ko).toNatClampNeg a0))).toNatClampNeg a1))) (ko_length (ko_as__s (ko_numbers_s ko (upd (ko_numbers ko) (ko_length ko).toNatClampNeg a0)) (upd (ko_as_ (ko_numbers_s ko (upd (ko_numbers ko) (ko_length ko).toNatClampNeg a0))) (ko_length (ko_numbers_s ko (upd (ko_numbers ko) (ko_length ko).toNatClampNeg a0))).toNatClampNeg a1))).toNatClampNeg a2)) (upd (ko_cs (ko_bs_s (ko_as__s (ko_numbers_s ko (upd (ko_numbers ko) (ko_length ko).toNatClampNeg a0)) (upd (ko_as_ (ko_numbers_s ko (upd (ko_numbers ko) (ko_length ko).toNatClampNeg a0))) (ko_length (ko_numbers_s ko (upd (ko_numbers ko) (ko_length ko).toNatClampNeg a0))).toNatClampNeg a1)) (upd (ko_bs (ko_as__s (ko_numbers_s ko (upd (ko_numbers ko) (ko_length ko).toNatClampNeg a0)) (upd (ko_as_ (ko_numbers_s ko (upd (ko_numbers ko) (ko_length ko).toNatClampNeg a0))) (ko_length (ko_numbers_s ko (upd (ko_numbers ko) (ko_length ko).toNatClampNeg a0))).toNatClampNeg a1))) (ko_length (ko_as__s (ko_numbers_s ko (upd (ko_numbers ko) (ko_length ko).toNatClampNeg a0)) (upd (ko_as_ (ko_numbers_s ko (upd (ko_numbers ko) (ko_length ko).toNatClampNeg a0))) (ko_length (ko_numbers_s ko (upd (ko_numbers ko) (ko_length ko).toNatClampNeg a0))).toNatClampNeg a1))).toNatClampNeg a2))) (ko_length (ko_bs_s (ko_as__s (ko_numbers_s ko (upd (ko_numbers ko) (ko_length ko).toNatClampNeg a0)) (upd (ko_as_ (ko_numbers_s ko (upd (ko_numbers ko) (ko_length ko).toNatClampNeg a0))) (ko_length (ko_numbers_s ko (upd (ko_numbers ko) (ko_length ko).toNatClampNeg a0))).toNatClampNeg a1)) (upd (ko_bs (ko_as__s (ko_numbers_s ko (upd (ko_numbers ko) (ko_length ko).toNatClampNeg a0)) (upd (ko_as_ (ko_numbers_s ko (upd (ko_numbers ko) (ko_length ko).toNatClampNeg a0))) (ko_length (ko_numbers_s ko (upd (ko_numbers ko) (ko_length ko).toNatClampNeg a0))).toNatClampNeg a1))) (ko_length (ko_as__s (ko_numbers_s ko (upd (ko_numbers ko) (ko_length ko).toNatClampNeg a0)) (upd (ko_as_ (ko_numbers_s ko (upd (ko_numbers ko) (ko_length ko).toNatClampNeg a0))) (ko_length (ko_numbers_s ko (upd (ko_numbers ko) (ko_length ko).toNatClampNeg a0))).toNatClampNeg a1))).toNatClampNeg a2))).toNatClampNeg a3))) + (1 : Int32))) (upd (ko_sizes (ko_length_s (ko_cs_s (ko_bs_s (ko_as__s (ko_numbers_s ko (upd (ko_numbers ko) (ko_length ko).toNatClampNeg a0)) (upd (ko_as_ (ko_numbers_s ko (upd (ko_numbers ko) (ko_length ko).toNatClampNeg a0))) (ko_length (ko_numbers_s ko (upd (ko_numbers ko) (ko_length ko).toNatClampNeg a0))).toNatClampNeg a1)) (upd (ko_bs (ko_as__s (ko_numbers_s ko (upd (ko_numbers ko) (ko_length ko).toNatClampNeg a0)) (upd (ko_as_ (ko_numbers_s ko (upd (ko_numbers ko) (ko_length ko).toNatClampNeg a0))) (ko_length (ko_numbers_s ko (upd (ko_numbers ko) (ko_length ko).toNatClampNeg a0))).toNatClampNeg a1))) (ko_length (ko_as__s (ko_numbers_s ko (upd (ko_numbers ko) (ko_length ko).toNatClampNeg a0)) (upd (ko_as_ (ko_numbers_s ko (upd (ko_numbers ko) (ko_length ko).toNatClampNeg a0))) (ko_length (ko_numbers_s ko (upd (ko_numbers ko) (ko_length ko).toNatClampNeg a0))).toNatClampNeg a1))).toNatClampNeg a2)) (upd (ko_cs (ko_bs_s (ko_as__s (ko_numbers_s ko (upd (ko_numbers ko) (ko_length ko).toNatClampNeg a0)) (upd (ko_as_ (ko_numbers_s ko (upd (ko_numbers ko) (ko_length ko).toNatClampNeg a0))) (ko_length (ko_numbers_s ko (upd (ko_numbers ko) (ko_length ko).toNatClampNeg a0))).toNatClampNeg a1)) (upd (ko_bs (ko_as__s (ko_numbers_s ko (upd (ko_numbers ko) (ko_length ko).toNatClampNeg a0)) (upd (ko_as_ (ko_numbers_s ko (upd (ko_numbers ko) (ko_length ko).toNatClampNeg a0))) (ko_length (ko_numbers_s ko (upd (ko_numbers ko) (ko_length ko).toNatClampNeg a0))).toNatClampNeg a1))) (ko_length (ko_as__s (ko_numbers_s ko (upd (ko_numbers ko) (ko_length ko).toNatClampNeg a0)) (upd (ko_as_ (ko_numbers_s ko (upd (ko_numbers ko) (ko_length ko).toNatClampNeg a0))) (ko_length (ko_numbers_s ko (upd (ko_numbers ko) (ko_length ko).toNatClampNeg a0))).toNatClampNeg a1))).toNatClampNeg a2))) (ko_length (ko_bs_s (ko_as__s (ko_numbers_s ko (upd (ko_numbers ko) (ko_length ko).toNatClampNeg a0)) (upd (ko_as_ (ko_numbers_s ko (upd (ko_numbers ko) (ko_length ko).toNatClampNeg a0))) (ko_length (ko_numbers_s ko (upd (ko_numbers ko) (ko_length ko).toNatClampNeg a0))).toNatClampNeg a1)) (upd (ko_bs (ko_as__s (ko_numbers_s ko (upd (ko_numbers ko) (ko_length ko).toNatClampNeg a0)) (upd (ko_as_ (ko_numbers_s ko (upd (ko_numbers ko) (ko_length ko).toNatClampNeg a0))) (ko_length (ko_numbers_s ko (upd (ko_numbers ko) (ko_length ko).toNatClampNeg a0))).toNatClampNeg a1))) (ko_length (ko_as__s (ko_numbers_s ko (upd (ko_numbers ko) (ko_length ko).toNatClampNeg a0)) (upd (ko_as_ (ko_numbers_s ko (upd (ko_numbers ko) (ko_length ko).toNatClampNeg a0))) (ko_length (ko_numbers_s ko (upd (ko_numbers ko) (ko_length ko).toNatClampNeg a0))).toNatClampNeg a1))).toNatClampNeg a2))).toNatClampNeg a3)) ((ko_length (ko_cs_s (ko_bs_s (ko_as__s (ko_numbers_s ko (upd (ko_numbers ko) (ko_length ko).toNatClampNeg a0)) (upd (ko_as_ (ko_numbers_s ko (upd (ko_numbers ko) (ko_length ko).toNatClampNeg a0))) (ko_length (ko_numbers_s ko (upd (ko_numbers ko) (ko_length ko).toNatClampNeg a0))).toNatClampNeg a1)) (upd (ko_bs (ko_as__s (ko_numbers_s ko (upd (ko_numbers ko) (ko_length ko).toNatClampNeg a0)) (upd (ko_as_ (ko_numbers_s ko (upd (ko_numbers ko) (ko_length ko).toNatClampNeg a0))) (ko_length (ko_numbers_s ko (upd (ko_numbers ko) (ko_length ko).toNatClampNeg a0))).toNatClampNeg a1))) (ko_length (ko_as__s (ko_numbers_s ko (upd (ko_numbers ko) (ko_length ko).toNatClampNeg a0)) (upd (ko_as_ (ko_numbers_s ko (upd (ko_numbers ko) (ko_length ko).toNatClampNeg a0))) (ko_length (ko_numbers_s ko (upd (ko_numbers ko) (ko_length ko).toNatClampNeg a0))).toNatClampNeg a1))).toNatClampNeg a2)) (upd (ko_cs (ko_bs_s (ko_as__s (ko_numbers_s ko (upd (ko_numbers ko) (ko_length ko).toNatClampNeg a0)) (upd (ko_as_ (ko_numbers_s ko (upd (ko_numbers ko) (ko_length ko).toNatClampNeg a0))) (ko_length (ko_numbers_s ko (upd (ko_numbers ko) (ko_length ko).toNatClampNeg a0))).toNatClampNeg a1)) (upd (ko_bs (ko_as__s (ko_numbers_s ko (upd (ko_numbers ko) (ko_length ko).toNatClampNeg a0)) (upd (ko_as_ (ko_numbers_s ko (upd (ko_numbers ko) (ko_length ko).toNatClampNeg a0))) (ko_length (ko_numbers_s ko (upd (ko_numbers ko) (ko_length ko).toNatClampNeg a0))).toNatClampNeg a1))) (ko_length (ko_as__s (ko_numbers_s ko (upd (ko_numbers ko) (ko_length ko).toNatClampNeg a0)) (upd (ko_as_ (ko_numbers_s ko (upd (ko_numbers ko) (ko_length ko).toNatClampNeg a0))) (ko_length (ko_numbers_s ko (upd (ko_numbers ko) (ko_length ko).toNatClampNeg a0))).toNatClampNeg a1))).toNatClampNeg a2))) (ko_length (ko_bs_s (ko_as__s (ko_numbers_s ko (upd (ko_numbers ko) (ko_length ko).toNatClampNeg a0)) (upd (ko_as_ (ko_numbers_s ko (upd (ko_numbers ko) (ko_length ko).toNatClampNeg a0))) (ko_length (ko_numbers_s ko (upd (ko_numbers ko) (ko_length ko).toNatClampNeg a0))).toNatClampNeg a1)) (upd (ko_bs (ko_as__s (ko_numbers_s ko (upd (ko_numbers ko) (ko_length ko).toNatClampNeg a0)) (upd (ko_as_ (ko_numbers_s ko (upd (ko_numbers ko) (ko_length ko).toNatClampNeg a0))) (ko_length (ko_numbers_s ko (upd (ko_numbers ko) (ko_length ko).toNatClampNeg a0))).toNatClampNeg a1))) (ko_length (ko_as__s (ko_numbers_s ko (upd (ko_numbers ko) (ko_length ko).toNatClampNeg a0)) (upd (ko_as_ (ko_numbers_s ko (upd (ko_numbers ko) (ko_length ko).toNatClampNeg a0))) (ko_length (ko_numbers_s ko (upd (ko_numbers ko) (ko_length ko).toNatClampNeg a0))).toNatClampNeg a1))).toNatClampNeg a2))).toNatClampNeg a3))) + (1 : Int32)))) ((ko_units (ko_length_s (ko_cs_s (ko_bs_s (ko_as__s (ko_numbers_s ko (upd (ko_numbers ko) (ko_length ko).toNatClampNeg a0)) (upd (ko_as_ (ko_numbers_s ko (upd (ko_numbers ko) (ko_length ko).toNatClampNeg a0))) (ko_length (ko_numbers_s ko (upd (ko_numbers ko) (ko_length ko).toNatClampNeg a0))).toNatClampNeg a1)) (upd (ko_bs (ko_as__s (ko_numbers_s ko (upd (ko_numbers ko) (ko_length ko).toNatClampNeg a0)) (upd (ko_as_ (ko_numbers_s ko (upd (ko_numbers ko) (ko_length ko).toNatClampNeg a0))) (ko_length (ko_numbers_s ko (upd (ko_numbers ko) (ko_length ko).toNatClampNeg a0))).toNatClampNeg a1))) (ko_length (ko_as__s (ko_numbers_s ko (upd (ko_numbers ko) (ko_length ko).toNatClampNeg a0)) (upd (ko_as_ (ko_numbers_s ko (upd (ko_numbers ko) (ko_length ko).toNatClampNeg a0))) (ko_length (ko_numbers_s ko (upd (ko_numbers ko) (ko_length ko).toNatClampNeg a0))).toNatClampNeg a1))).toNatClampNeg a2)) (upd (ko_cs (ko_bs_s (ko_as__s (ko_numbers_s ko (upd (ko_numbers ko) (ko_length ko).toNatClampNeg a0)) (upd (ko_as_ (ko_numbers_s ko (upd (ko_numbers ko) (ko_length ko).toNatClampNeg a0))) (ko_length (ko_numbers_s ko (upd (ko_numbers ko) (ko_length ko).toNatClampNeg a0))).toNatClampNeg a1)) (upd (ko_bs (ko_as__s (ko_numbers_s ko (upd (ko_numbers ko) (ko_length ko).toNatClampNeg a0)) (upd (ko_as_ (ko_numbers_s ko (upd (ko_numbers ko) (ko_length ko).toNatClampNeg a0))) (ko_length (ko_numbers_s ko (upd (ko_numbers ko) (ko_length ko).toNatClampNeg a0))).toNatClampNeg a1))) (ko_length (ko_as__s (ko_numbers_s ko (upd (ko_numbers ko) (ko_length ko).toNatClampNeg a0)) (upd (ko_as_ (ko_numbers_s ko (upd (ko_numbers ko) (ko_length ko).toNatClampNeg a0))) (ko_length (ko_numbers_s ko (upd (ko_numbers ko) (ko_length ko).toNatClampNeg a0))).toNatClampNeg a1))).toNatClampNeg a2))) (ko_length (ko_bs_s (ko_as__s (ko_numbers_s ko (upd (ko_numbers ko) (ko_length ko).toNatClampNeg a0)) (upd (ko_as_ (ko_numbers_s ko (upd (ko_numbers ko) (ko_length ko).toNatClampNeg a0))) (ko_length (ko_numbers_s ko (upd (ko_numbers ko) (ko_length ko).toNatClampNeg a0))).toNatClampNeg a1)) (upd (ko_bs (ko_as__s (ko_numbers_s ko (upd (ko_numbers ko) (ko_length ko).toNatClampNeg a0)) (upd (ko_as_ (ko_numbers_s ko (upd (ko_numbers ko) (ko_length ko).toNatClampNeg a0))) (ko_length (ko_numbers_s ko (upd (ko_numbers ko) (ko_length ko).toNatClampNeg a0))).toNatClampNeg a1))) (ko_length (ko_as__s (ko_numbers_s ko (upd (ko_numbers ko) (ko_length ko).toNatClampNeg a0)) (upd (ko_as_ (ko_numbers_s ko (upd (ko_numbers ko) (ko_length ko).toNatClampNeg a0))) (ko_length (ko_numbers_s ko (upd (ko_numbers ko) (ko_length ko).toNatClampNeg a0))).toNatClampNeg a1))).toNatClampNeg a2))).toNatClampNeg a3)) ((ko_length (ko_cs_s (ko_bs_s (ko_as__s (ko_numbers_s ko (upd (ko_numbers ko) (ko_length ko).toNatClampNeg a0)) (upd (ko_as_ (ko_numbers_s ko (upd (ko_numbers ko) (ko_length ko).toNatClampNeg a0))) (ko_length (ko_numbers_s ko (upd (ko_numbers ko) (ko_length ko).toNatClampNeg a0))).toNatClampNeg a1)) (upd (ko_bs (ko_as__s (ko_numbers_s ko (upd (ko_numbers ko) (ko_length ko).toNatClampNeg a0)) (upd (ko_as_ (ko_numbers_s ko (upd (ko_numbers ko) (ko_length ko).toNatClampNeg a0))) (ko_length (ko_numbers_s ko (upd (ko_numbers ko) (ko_length ko).toNatClampNeg a0))).toNatClampNeg a1))) (ko_length (ko_as__s (ko_numbers_s ko (upd (ko_numbers ko) (ko_length ko).toNatClampNeg a0)) (upd (ko_as_ (ko_numbers_s ko (upd (ko_numbers ko) (ko_length ko).toNatClampNeg a0))) (ko_length (ko_numbers_s ko (upd (ko_numbers ko) (ko_length ko).toNatClampNeg a0))).toNatClampNeg a1))).toNatClampNeg a2)) (upd (ko_cs (ko_bs_s (ko_as__s (ko_numbers_s ko (upd (ko_numbers ko) (ko_length ko).toNatClampNeg a0)) (upd (ko_as_ (ko_numbers_s ko (upd (ko_numbers ko) (ko_length ko).toNatClampNeg a0))) (ko_length (ko_numbers_s ko (upd (ko_numbers ko) (ko_length ko).toNatClampNeg a0))).toNatClampNeg a1)) (upd (ko_bs (ko_as__s (ko_numbers_s ko (upd (ko_numbers ko) (ko_length ko).toNatClampNeg a0)) (upd (ko_as_ (ko_numbers_s ko (upd (ko_numbers ko) (ko_length ko).toNatClampNeg a0))) (ko_length (ko_numbers_s ko (upd (ko_numbers ko) (ko_length ko).toNatClampNeg a0))).toNatClampNeg a1))) (ko_length (ko_as__s (ko_numbers_s ko (upd (ko_numbers ko) (ko_length ko).toNatClampNeg a0)) (upd (ko_as_ (ko_numbers_s ko (upd (ko_numbers ko) (ko_length ko).toNatClampNeg a0))) (ko_length (ko_numbers_s ko (upd (ko_numbers ko) (ko_length ko).toNatClampNeg a0))).toNatClampNeg a1))).toNatClampNeg a2))) (ko_length (ko_bs_s (ko_as__s (ko_numbers_s ko (upd (ko_numbers ko) (ko_length ko).toNatClampNeg a0)) (upd (ko_as_ (ko_numbers_s ko (upd (ko_numbers ko) (ko_length ko).toNatClampNeg a0))) (ko_length (ko_numbers_s ko (upd (ko_numbers ko) (ko_length ko).toNatClampNeg a0))).toNatClampNeg a1)) (upd (ko_bs (ko_as__s (ko_numbers_s ko (upd (ko_numbers ko) (ko_length ko).toNatClampNeg a0)) (upd (ko_as_ (ko_numbers_s ko (upd (ko_numbers ko) (ko_length ko).toNatClampNeg a0))) (ko_length (ko_numbers_s ko (upd (ko_numbers ko) (ko_length ko).toNatClampNeg a0))).toNatClampNeg a1))) (ko_length (ko_as__s (ko_numbers_s ko (upd (ko_numbers ko) (ko_length ko).toNatClampNeg a0)) (upd (ko_as_ (ko_numbers_s ko (upd (ko_numbers ko) (ko_length ko).toNatClampNeg a0))) (ko_length (ko_numbers_s ko (upd (ko_numbers ko) (ko_length ko).toNatClampNeg a0))).toNatClampNeg a1))).toNatClampNeg a2))).toNatClampNeg a3))) + (1 : Int32)))) - (1 : Int32)).toNatClampNeg (v8 + (1 : Int32)))))) rfl d_Co_appendInstruction_80 ?_
    refine lv_iconst (v := 1) hx hb d_Co_appendInstruction_83 (by decide) ?_
    refine lv_isub hx hb d_Co_appendInstruction_84 ?_
    obtain ⟨hi10, v11, ev11, h⟩ := gr_some h
    refine ld_Co_sizes hx hb hK hP hi10 ev11 d_Co_appendInstruction_85 ?_
    refine lv_iconst (v := 1) hx hb d_Co_appendInstruction_86 (by decide) ?_
    refine lv_isub hx hb d_Co_appendInstruction_87 ?_
    cases h
    subst hQ
    exact k_iret hx hb hr hlk hP hK hD hS d_Co_appendInstruction_88
  · rw [if_pos c2] at h
    refine lv_iconst (v := -1) hx hb d_Co_appendInstruction_7 (by decide) ?_
    cases h
    subst hQ
    exact k_iret hx hb hr hlk hP hK hD hS d_Co_appendInstruction_8
theorem d_Co_hasRoomForUnit_0 : decode b_Co_hasRoomForUnit 0 = .ok (.aload_n 0, 1) := by decide +kernel
theorem d_Co_hasRoomForUnit_1 : decode b_Co_hasRoomForUnit 1 = .ok (.getfield 36, 3) := by decide +kernel
theorem d_Co_hasRoomForUnit_4 : decode b_Co_hasRoomForUnit 4 = .ok (.bipush 16, 2) := by decide +kernel
theorem d_Co_hasRoomForUnit_6 : decode b_Co_hasRoomForUnit 6 = .ok (.if_icmp .ge 7, 3) := by decide +kernel
theorem d_Co_hasRoomForUnit_9 : decode b_Co_hasRoomForUnit 9 = .ok (.iconst 1, 1) := by decide +kernel
theorem d_Co_hasRoomForUnit_10 : decode b_Co_hasRoomForUnit 10 = .ok (.goto 4, 3) := by decide +kernel
theorem d_Co_hasRoomForUnit_13 : decode b_Co_hasRoomForUnit 13 = .ok (.iconst 0, 1) := by decide +kernel
theorem d_Co_hasRoomForUnit_14 : decode b_Co_hasRoomForUnit 14 = .ok (.ireturn, 1) := by decide +kernel
def r_Co_hasRoomForUnit (n : Nat) (ko : T_ko)  : Option (Int32) := if (16 : Int32) ≤ (ko_units ko) then some ((0 : Int32)) else some ((1 : Int32))
def rm_Co_hasRoomForUnit : Jvm.Room := { frames := 0, cells := 0, slots := 0, locals := 0 }
set_option maxHeartbeats 4000000 in
set_option maxRecDepth 100000 in
theorem c_Co_hasRoomForUnit {l : Launch} {D : va_G} {cI cL : ClassId} {ad : Nat → Nat} {ma : T_ma} {ko : T_ko} {sh : T_sh} {lo : T_lo} {de : T_de} {wa : T_wa} {me : T_me} {ru : T_ru} {ws0 : va_W} {sz n : Nat}  {r9 : Int32} (hw : ws0 = (wX cI cL ad ma ko sh lo de wa me ru)) (h : r_Co_hasRoomForUnit n ko  = some r9) : Met l y_Co_hasRoomForUnit (Cond.code y_Co_hasRoomForUnit b_Co_hasRoomForUnit 1 (some .boolean) :: TB) rm_Co_hasRoomForUnit (PreW D clX (tyX cI cL) ws0 [.ref (ad 1)] sz) (PstI D clX (tyX cI cL) ws0 (wX cI cL ad ma ko sh lo de wa me ru) sz r9) 0 0 (va_A ws0 sz) := by
  refine k_met (by decide) (Nat.le_of_ble_eq_true rfl) ?_
  intro p e s m below meth c ls hx hb hr hml hts hown hlk hnm hsz hP hK hD hA hz hl
  have hP : va_P D clX (wX cI cL ad ma ko sh lo de wa me ru) s.heap := by rw [← hw]; exact hP
  have hD : va_D (va_A ws0 sz) (wX cI cL ad ma ko sh lo de wa me ru) := by rw [← hw]; exact hD
  have hS : va_S (va_A ws0 sz) s.heap s.heap [] := va_S.rf
  have hl : lv_has ls 1 [(0, .ref (ad 1))] := hl
  generalize hQ : MQ below (PstI D clX (tyX cI cL) ws0 (wX cI cL ad ma ko sh lo de wa me ru) sz r9) [.ref (ad 1)].toArray s 0 0 (va_A ws0 sz) = Q
  unfold r_Co_hasRoomForUnit at h
  refine lv_aload_n hx hb d_Co_hasRoomForUnit_0 rfl (lv_at hl 0 rfl) ?_
  refine rd_Co_units hx hb hts hown hK hP lk_36 (v := (ko_units ko)) rfl d_Co_hasRoomForUnit_1 ?_
  refine lv_bipush (v := 16) hx hb d_Co_hasRoomForUnit_4 (by decide) ?_
  refine lv_icmp_ge (tgt := 13) hx hb d_Co_hasRoomForUnit_6 (by decide) (fun c1 => ?_) (fun c1 => ?_)
  · rw [if_pos c1] at h
    refine lv_iconst (v := 0) hx hb d_Co_hasRoomForUnit_13 (by decide) ?_
    cases h
    subst hQ
    exact k_zret hx hb hr hlk (Or.inl rfl) hP hK hD hS d_Co_hasRoomForUnit_14
  · rw [if_neg c1] at h
    refine lv_iconst (v := 1) hx hb d_Co_hasRoomForUnit_9 (by decide) ?_
    refine lv_goto (tgt := 14) hx hb d_Co_hasRoomForUnit_10 (by decide) ?_
    cases h
    subst hQ
    exact k_zret hx hb hr hlk (Or.inr rfl) hP hK hD hS d_Co_hasRoomForUnit_14
theorem d_Co_appendUnit_0 : decode b_Co_appendUnit 0 = .ok (.aload_n 0, 1) := by decide +kernel
theorem d_Co_appendUnit_1 : decode b_Co_appendUnit 1 = .ok (.invokevirtual 43, 3) := by decide +kernel
theorem d_Co_appendUnit_4 : decode b_Co_appendUnit 4 = .ok (.ifCond .ne 5, 3) := by decide +kernel
theorem d_Co_appendUnit_7 : decode b_Co_appendUnit 7 = .ok (.iconst (-1), 1) := by decide +kernel
theorem d_Co_appendUnit_8 : decode b_Co_appendUnit 8 = .ok (.ireturn, 1) := by decide +kernel
theorem d_Co_appendUnit_9 : decode b_Co_appendUnit 9 = .ok (.aload_n 0, 1) := by decide +kernel
theorem d_Co_appendUnit_10 : decode b_Co_appendUnit 10 = .ok (.getfield 9, 3) := by decide +kernel
theorem d_Co_appendUnit_13 : decode b_Co_appendUnit 13 = .ok (.aload_n 0, 1) := by decide +kernel
theorem d_Co_appendUnit_14 : decode b_Co_appendUnit 14 = .ok (.getfield 36, 3) := by decide +kernel
theorem d_Co_appendUnit_17 : decode b_Co_appendUnit 17 = .ok (.iload_n 1, 1) := by decide +kernel
theorem d_Co_appendUnit_18 : decode b_Co_appendUnit 18 = .ok (.iastore, 1) := by decide +kernel
theorem d_Co_appendUnit_19 : decode b_Co_appendUnit 19 = .ok (.aload_n 0, 1) := by decide +kernel
theorem d_Co_appendUnit_20 : decode b_Co_appendUnit 20 = .ok (.getfield 15, 3) := by decide +kernel
theorem d_Co_appendUnit_23 : decode b_Co_appendUnit 23 = .ok (.aload_n 0, 1) := by decide +kernel
theorem d_Co_appendUnit_24 : decode b_Co_appendUnit 24 = .ok (.getfield 36, 3) := by decide +kernel
theorem d_Co_appendUnit_27 : decode b_Co_appendUnit 27 = .ok (.iload_n 2, 1) := by decide +kernel
theorem d_Co_appendUnit_28 : decode b_Co_appendUnit 28 = .ok (.iastore, 1) := by decide +kernel
theorem d_Co_appendUnit_29 : decode b_Co_appendUnit 29 = .ok (.aload_n 0, 1) := by decide +kernel
theorem d_Co_appendUnit_30 : decode b_Co_appendUnit 30 = .ok (.getfield 18, 3) := by decide +kernel
theorem d_Co_appendUnit_33 : decode b_Co_appendUnit 33 = .ok (.aload_n 0, 1) := by decide +kernel
theorem d_Co_appendUnit_34 : decode b_Co_appendUnit 34 = .ok (.getfield 36, 3) := by decide +kernel
theorem d_Co_appendUnit_37 : decode b_Co_appendUnit 37 = .ok (.aload_n 0, 1) := by decide +kernel
theorem d_Co_appendUnit_38 : decode b_Co_appendUnit 38 = .ok (.getfield 40, 3) := by decide +kernel
theorem d_Co_appendUnit_41 : decode b_Co_appendUnit 41 = .ok (.iastore, 1) := by decide +kernel
theorem d_Co_appendUnit_42 : decode b_Co_appendUnit 42 = .ok (.aload_n 0, 1) := by decide +kernel
theorem d_Co_appendUnit_43 : decode b_Co_appendUnit 43 = .ok (.getfield 21, 3) := by decide +kernel
theorem d_Co_appendUnit_46 : decode b_Co_appendUnit 46 = .ok (.aload_n 0, 1) := by decide +kernel
theorem d_Co_appendUnit_47 : decode b_Co_appendUnit 47 = .ok (.getfield 36, 3) := by decide +kernel
theorem d_Co_appendUnit_50 : decode b_Co_appendUnit 50 = .ok (.iconst 0, 1) := by decide +kernel
theorem d_Co_appendUnit_51 : decode b_Co_appendUnit 51 = .ok (.iastore, 1) := by decide +kernel
theorem d_Co_appendUnit_52 : decode b_Co_appendUnit 52 = .ok (.aload_n 0, 1) := by decide +kernel
theorem d_Co_appendUnit_53 : decode b_Co_appendUnit 53 = .ok (.dup, 1) := by decide +kernel
theorem d_Co_appendUnit_54 : decode b_Co_appendUnit 54 = .ok (.getfield 36, 3) := by decide +kernel
theorem d_Co_appendUnit_57 : decode b_Co_appendUnit 57 = .ok (.iconst 1, 1) := by decide +kernel
theorem d_Co_appendUnit_58 : decode b_Co_appendUnit 58 = .ok (.iadd, 1) := by decide +kernel
theorem d_Co_appendUnit_59 : decode b_Co_appendUnit 59 = .ok (.putfield 36, 3) := by decide +kernel
theorem d_Co_appendUnit_62 : decode b_Co_appendUnit 62 = .ok (.aload_n 0, 1) := by decide +kernel
theorem d_Co_appendUnit_63 : decode b_Co_appendUnit 63 = .ok (.getfield 36, 3) := by decide +kernel
theorem d_Co_appendUnit_66 : decode b_Co_appendUnit 66 = .ok (.iconst 1, 1) := by decide +kernel
theorem d_Co_appendUnit_67 : decode b_Co_appendUnit 67 = .ok (.isub, 1) := by decide +kernel
theorem d_Co_appendUnit_68 : decode b_Co_appendUnit 68 = .ok (.ireturn, 1) := by decide +kernel
def r_Co_appendUnit (n : Nat) (ko : T_ko) (a0 : Int32) (a1 : Int32) : Option (Int32 × T_ko) := (r_Co_hasRoomForUnit n ko).bind (fun q1 => if q1 = 0 then some ((-1 : Int32), ko) else ga (ko_units ko) 16 (ga (ko_units (ko_frames_s ko (upd (ko_frames ko) (ko_units ko).toNatClampNeg a0))) 16 (ga (ko_units (ko_places_s (ko_frames_s ko (upd (ko_frames ko) (ko_units ko).toNatClampNeg a0)) (upd (ko_places (ko_frames_s ko (upd (ko_frames ko) (ko_units ko).toNatClampNeg a0))) (ko_units (ko_frames_s ko (upd (ko_frames ko) (ko_units ko).toNatClampNeg a0))).toNatClampNeg a1))) 16 (ga (ko_units (ko_firsts_s (ko_places_s (ko_frames_s ko (upd (ko_frames ko) (ko_units ko).toNatClampNeg a0)) (upd (ko_places (ko_frames_s ko (upd (ko_frames ko) (ko_units ko).toNatClampNeg a0))) (ko_units (ko_frames_s ko (upd (ko_frames ko) (ko_units ko).toNatClampNeg a0))).toNatClampNeg a1)) (upd (ko_firsts (ko_places_s (ko_frames_s ko (upd (ko_frames ko) (ko_units ko).toNatClampNeg a0)) (upd (ko_places (ko_frames_s ko (upd (ko_frames ko) (ko_units ko).toNatClampNeg a0))) (ko_units (ko_frames_s ko (upd (ko_frames ko) (ko_units ko).toNatClampNeg a0))).toNatClampNeg a1))) (ko_units (ko_places_s (ko_frames_s ko (upd (ko_frames ko) (ko_units ko).toNatClampNeg a0)) (upd (ko_places (ko_frames_s ko (upd (ko_frames ko) (ko_units ko).toNatClampNeg a0))) (ko_units (ko_frames_s ko (upd (ko_frames ko) (ko_units ko).toNatClampNeg a0))).toNatClampNeg a1))).toNatClampNeg (ko_length (ko_places_s (ko_frames_s ko (upd (ko_frames ko) (ko_units ko).toNatClampNeg a0)) (upd (ko_places (ko_frames_s ko (upd (ko_frames ko) (ko_units ko).toNatClampNeg a0))) (ko_units (ko_frames_s ko (upd (ko_frames ko) (ko_units ko).toNatClampNeg a0))).toNatClampNeg a1)))))) 16 (some (((ko_units (ko_units_s (ko_sizes_s (ko_firsts_s (ko_places_s (ko_frames_s ko (upd (ko_frames ko) (ko_units ko).toNatClampNeg a0)) (upd (ko_places (ko_frames_s ko (upd (ko_frames ko) (ko_units ko).toNatClampNeg a0))) (ko_units (ko_frames_s ko (upd (ko_frames ko) (ko_units ko).toNatClampNeg a0))).toNatClampNeg a1)) (upd (ko_firsts (ko_places_s (ko_frames_s ko (upd (ko_frames ko) (ko_units ko).toNatClampNeg a0)) (upd (ko_places (ko_frames_s ko (upd (ko_frames ko) (ko_units ko).toNatClampNeg a0))) (ko_units (ko_frames_s ko (upd (ko_frames ko) (ko_units ko).toNatClampNeg a0))).toNatClampNeg a1))) (ko_units (ko_places_s (ko_frames_s ko (upd (ko_frames ko) (ko_units ko).toNatClampNeg a0)) (upd (ko_places (ko_frames_s ko (upd (ko_frames ko) (ko_units ko).toNatClampNeg a0))) (ko_units (ko_frames_s ko (upd (ko_frames ko) (ko_units ko).toNatClampNeg a0))).toNatClampNeg a1))).toNatClampNeg (ko_length (ko_places_s (ko_frames_s ko (upd (ko_frames ko) (ko_units ko).toNatClampNeg a0)) (upd (ko_places (ko_frames_s ko (upd (ko_frames ko) (ko_units ko).toNatClampNeg a0))) (ko_units (ko_frames_s ko (upd (ko_frames ko) (ko_units ko).toNatClampNeg a0))).toNatClampNeg a1))))) (upd (ko_sizes (ko_firsts_s (ko_places_s (ko_frames_s ko (upd (ko_frames ko) (ko_units ko).toNatClampNeg a0)) (upd (ko_places (ko_frames_s ko (upd (ko_frames ko) (ko_units ko).toNatClampNeg a0))) (ko_units (ko_frames_s ko (upd (ko_frames ko) (ko_units ko).toNatClampNeg a0))).toNatClampNeg a1)) (upd (ko_firsts (ko_places_s (ko_frames_s ko (upd (ko_frames ko) (ko_units ko).toNatClampNeg a0)) (upd (ko_places (ko_frames_s ko (upd (ko_frames ko) (ko_units ko).toNatClampNeg a0))) (ko_units (ko_frames_s ko (upd (ko_frames ko) (ko_units ko).toNatClampNeg a0))).toNatClampNeg a1))) (ko_units (ko_places_s (ko_frames_s ko (upd (ko_frames ko) (ko_units ko).toNatClampNeg a0)) (upd (ko_places (ko_frames_s ko (upd (ko_frames ko) (ko_units ko).toNatClampNeg a0))) (ko_units (ko_frames_s ko (upd (ko_frames ko) (ko_units ko).toNatClampNeg a0))).toNatClampNeg a1))).toNatClampNeg (ko_length (ko_places_s (ko_frames_s ko (upd (ko_frames ko) (ko_units ko).toNatClampNeg a0)) (upd (ko_places (ko_frames_s ko (upd (ko_frames ko) (ko_units ko).toNatClampNeg a0))) (ko_units (ko_frames_s ko (upd (ko_frames ko) (ko_units ko).toNatClampNeg a0))).toNatClampNeg a1)))))) (ko_units (ko_firsts_s (ko_places_s (ko_frames_s ko (upd (ko_frames ko) (ko_units ko).toNatClampNeg a0)) (upd (ko_places (ko_frames_s ko (upd (ko_frames ko) (ko_units ko).toNatClampNeg a0))) (ko_units (ko_frames_s ko (upd (ko_frames ko) (ko_units ko).toNatClampNeg a0))).toNatClampNeg a1)) (upd (ko_firsts (ko_places_s (ko_frames_s ko (upd (ko_frames ko) (ko_units ko).toNatClampNeg a0)) (upd (ko_places (ko_frames_s ko (upd (ko_frames ko) (ko_units ko).toNatClampNeg a0))) (ko_units (ko_frames_s ko (upd (ko_frames ko) (ko_units ko).toNatClampNeg a0))).toNatClampNeg a1))) (ko_units (ko_places_s (ko_frames_s ko (upd (ko_frames ko) (ko_units ko).toNatClampNeg a0)) (upd (ko_places (ko_frames_s ko (upd (ko_frames ko) (ko_units ko).toNatClampNeg a0))) (ko_units (ko_frames_s ko (upd (ko_frames ko) (ko_units ko).toNatClampNeg a0))).toNatClampNeg a1))).toNatClampNeg (ko_length (ko_places_s (ko_frames_s ko (upd (ko_frames ko) (ko_units ko).toNatClampNeg a0)) (upd (ko_places (ko_frames_s ko (upd (ko_frames ko) (ko_units ko).toNatClampNeg a0))) (ko_units (ko_frames_s ko (upd (ko_frames ko) (ko_units ko).toNatClampNeg a0))).toNatClampNeg a1)))))).toNatClampNeg (0 : Int32))) ((ko_units (ko_sizes_s (ko_firsts_s (ko_places_s (ko_frames_s ko (upd (ko_frames ko) (ko_units ko).toNatClampNeg a0)) (upd (ko_places (ko_frames_s ko (upd (ko_frames ko) (ko_units ko).toNatClampNeg a0))) (ko_units (ko_frames_s ko (upd (ko_frames ko) (ko_units ko).toNatClampNeg a0))).toNatClampNeg a1)) (upd (ko_firsts (ko_places_s (ko_frames_s ko (upd (ko_frames ko) (ko_units ko).toNatClampNeg a0)) (upd (ko_places (ko_frames_s ko (upd (ko_frames ko) (ko_units ko).toNatClampNeg a0))) (ko_units (ko_frames_s ko (upd (ko_frames ko) (ko_units ko).toNatClampNeg a0))).toNatClampNeg a1))) (ko_units (ko_places_s (ko_frames_s ko (upd (ko_frames ko) (ko_units ko).toNatClampNeg a0)) (upd (ko_places (ko_frames_s ko (upd (ko_frames ko) (ko_units ko).toNatClampNeg a0))) (ko_units (ko_frames_s ko (upd (ko_frames ko) (ko_units ko).toNatClampNeg a0))).toNatClampNeg a1))).toNatClampNeg (ko_length (ko_places_s (ko_frames_s ko (upd (ko_frames ko) (ko_units ko).toNatClampNeg a0)) (upd (ko_places (ko_frames_s ko (upd (ko_frames ko) (ko_units ko).toNatClampNeg a0))) (ko_units (ko_frames_s ko (upd (ko_frames ko) (ko_units ko).toNatClampNeg a0))).toNatClampNeg a1))))) (upd (ko_sizes (ko_firsts_s (ko_places_s (ko_frames_s ko (upd (ko_frames ko) (ko_units ko).toNatClampNeg a0)) (upd (ko_places (ko_frames_s ko (upd (ko_frames ko) (ko_units ko).toNatClampNeg a0))) (ko_units (ko_frames_s ko (upd (ko_frames ko) (ko_units ko).toNatClampNeg a0))).toNatClampNeg a1)) (upd (ko_firsts (ko_places_s (ko_frames_s ko (upd (ko_frames ko) (ko_units ko).toNatClampNeg a0)) (upd (ko_places (ko_frames_s ko (upd (ko_frames ko) (ko_units ko).toNatClampNeg a0))) (ko_units (ko_frames_s ko (upd (ko_frames ko) (ko_units ko).toNatClampNeg a0))).toNatClampNeg a1))) (ko_units (ko_places_s (ko_frames_s ko (upd (ko_frames ko) (ko_units ko).toNatClampNeg a0)) (upd (ko_places (ko_frames_s ko (upd (ko_frames ko) (ko_units ko).toNatClampNeg a0))) (ko_units (ko_frames_s ko (upd (ko_frames ko) (ko_units ko).toNatClampNeg a0))).toNatClampNeg a1))).toNatClampNeg (ko_length (ko_places_s (ko_frames_s ko (upd (ko_frames ko) (ko_units ko).toNatClampNeg a0)) (upd (ko_places (ko_frames_s ko (upd (ko_frames ko) (ko_units ko).toNatClampNeg a0))) (ko_units (ko_frames_s ko (upd (ko_frames ko) (ko_units ko).toNatClampNeg a0))).toNatClampNeg a1)))))) (ko_units (ko_firsts_s (ko_places_s (ko_frames_s ko (upd (ko_frames ko) (ko_units ko).toNatClampNeg a0)) (upd (ko_places (ko_frames_s ko (upd (ko_frames ko) (ko_units ko).toNatClampNeg a0))) (ko_units (ko_frames_s ko (upd (ko_frames ko) (ko_units ko).toNatClampNeg a0))).toNatClampNeg a1)) (upd (ko_firsts (ko_places_s (ko_frames_s ko (upd (ko_frames ko) (ko_units ko).toNatClampNeg a0)) (upd (ko_places (ko_frames_s ko (upd (ko_frames ko) (ko_units ko).toNatClampNeg a0))) (ko_units (ko_frames_s ko (upd (ko_frames ko) (ko_units ko).toNatClampNeg a0))).toNatClampNeg a1))) (ko_units (ko_places_s (ko_frames_s ko (upd (ko_frames ko) (ko_units ko).toNatClampNeg a0)) (upd (ko_places (ko_frames_s ko (upd (ko_frames ko) (ko_units ko).toNatClampNeg a0))) (ko_units (ko_frames_s ko (upd (ko_frames ko) (ko_units ko).toNatClampNeg a0))).toNatClampNeg a1))).toNatClampNeg (ko_length (ko_places_s (ko_frames_s ko (upd (ko_frames ko) (ko_units ko).toNatClampNeg a0)) (upd (ko_places (ko_frames_s ko (upd (ko_frames ko) (ko_units ko).toNatClampNeg a0))) (ko_units (ko_frames_s ko (upd (ko_frames ko) (ko_units ko).toNatClampNeg a0))).toNatClampNeg a1)))))).toNatClampNeg (0 : Int32)))) + (1 : Int32)))) - (1 : Int32)), (ko_units_s (ko_sizes_s (ko_firsts_s (ko_places_s (ko_frames_s ko (upd (ko_frames ko) (ko_units ko).toNatClampNeg a0)) (upd (ko_places (ko_frames_s ko (upd (ko_frames ko) (ko_units ko).toNatClampNeg a0))) (ko_units (ko_frames_s ko (upd (ko_frames ko) (ko_units ko).toNatClampNeg a0))).toNatClampNeg a1)) (upd (ko_firsts (ko_places_s (ko_frames_s ko (upd (ko_frames ko) (ko_units ko).toNatClampNeg a0)) (upd (ko_places (ko_frames_s ko (upd (ko_frames ko) (ko_units ko).toNatClampNeg a0))) (ko_units (ko_frames_s ko (upd (ko_frames ko) (ko_units ko).toNatClampNeg a0))).toNatClampNeg a1))) (ko_units (ko_places_s (ko_frames_s ko (upd (ko_frames ko) (ko_units ko).toNatClampNeg a0)) (upd (ko_places (ko_frames_s ko (upd (ko_frames ko) (ko_units ko).toNatClampNeg a0))) (ko_units (ko_frames_s ko (upd (ko_frames ko) (ko_units ko).toNatClampNeg a0))).toNatClampNeg a1))).toNatClampNeg (ko_length (ko_places_s (ko_frames_s ko (upd (ko_frames ko) (ko_units ko).toNatClampNeg a0)) (upd (ko_places (ko_frames_s ko (upd (ko_frames ko) (ko_units ko).toNatClampNeg a0))) (ko_units (ko_frames_s ko (upd (ko_frames ko) (ko_units ko).toNatClampNeg a0))).toNatClampNeg a1))))) (upd (ko_sizes (ko_firsts_s (ko_places_s (ko_frames_s ko (upd (ko_frames ko) (ko_units ko).toNatClampNeg a0)) (upd (ko_places (ko_frames_s ko (upd (ko_frames ko) (ko_units ko).toNatClampNeg a0))) (ko_units (ko_frames_s ko (upd (ko_frames ko) (ko_units ko).toNatClampNeg a0))).toNatClampNeg a1)) (upd (ko_firsts (ko_places_s (ko_frames_s ko (upd (ko_frames ko) (ko_units ko).toNatClampNeg a0)) (upd (ko_places (ko_frames_s ko (upd (ko_frames ko) (ko_units ko).toNatClampNeg a0))) (ko_units (ko_frames_s ko (upd (ko_frames ko) (ko_units ko).toNatClampNeg a0))).toNatClampNeg a1))) (ko_units (ko_places_s (ko_frames_s ko (upd (ko_frames ko) (ko_units ko).toNatClampNeg a0)) (upd (ko_places (ko_frames_s ko (upd (ko_frames ko) (ko_units ko).toNatClampNeg a0))) (ko_units (ko_frames_s ko (upd (ko_frames ko) (ko_units ko).toNatClampNeg a0))).toNatClampNeg a1))).toNatClampNeg (ko_length (ko_places_s (ko_frames_s ko (upd (ko_frames ko) (ko_units ko).toNatClampNeg a0)) (upd (ko_places (ko_frames_s ko (upd (ko_frames ko) (ko_units ko).toNatClampNeg a0))) (ko_units (ko_frames_s ko (upd (ko_frames ko) (ko_units ko).toNatClampNeg a0))).toNatClampNeg a1)))))) (ko_units (ko_firsts_s (ko_places_s (ko_frames_s ko (upd (ko_frames ko) (ko_units ko).toNatClampNeg a0)) (upd (ko_places (ko_frames_s ko (upd (ko_frames ko) (ko_units ko).toNatClampNeg a0))) (ko_units (ko_frames_s ko (upd (ko_frames ko) (ko_units ko).toNatClampNeg a0))).toNatClampNeg a1)) (upd (ko_firsts (ko_places_s (ko_frames_s ko (upd (ko_frames ko) (ko_units ko).toNatClampNeg a0)) (upd (ko_places (ko_frames_s ko (upd (ko_frames ko) (ko_units ko).toNatClampNeg a0))) (ko_units (ko_frames_s ko (upd (ko_frames ko) (ko_units ko).toNatClampNeg a0))).toNatClampNeg a1))) (ko_units (ko_places_s (ko_frames_s ko (upd (ko_frames ko) (ko_units ko).toNatClampNeg a0)) (upd (ko_places (ko_frames_s ko (upd (ko_frames ko) (ko_units ko).toNatClampNeg a0))) (ko_units (ko_frames_s ko (upd (ko_frames ko) (ko_units ko).toNatClampNeg a0))).toNatClampNeg a1))).toNatClampNeg (ko_length (ko_places_s (ko_frames_s ko (upd (ko_frames ko) (ko_units ko).toNatClampNeg a0)) (upd (ko_places (ko_frames_s ko (upd (ko_frames ko) (ko_units ko).toNatClampNeg a0))) (ko_units (ko_frames_s ko (upd (ko_frames ko) (ko_units ko).toNatClampNeg a0))).toNatClampNeg a1)))))).toNatClampNeg (0 : Int32))) ((ko_units (ko_sizes_s (ko_firsts_s (ko_places_s (ko_frames_s ko (upd (ko_frames ko) (ko_units ko).toNatClampNeg a0)) (upd (ko_places (ko_frames_s ko (upd (ko_frames ko) (ko_units ko).toNatClampNeg a0))) (ko_units (ko_frames_s ko (upd (ko_frames ko) (ko_units ko).toNatClampNeg a0))).toNatClampNeg a1)) (upd (ko_firsts (ko_places_s (ko_frames_s ko (upd (ko_frames ko) (ko_units ko).toNatClampNeg a0)) (upd (ko_places (ko_frames_s ko (upd (ko_frames ko) (ko_units ko).toNatClampNeg a0))) (ko_units (ko_frames_s ko (upd (ko_frames ko) (ko_units ko).toNatClampNeg a0))).toNatClampNeg a1))) (ko_units (ko_places_s (ko_frames_s ko (upd (ko_frames ko) (ko_units ko).toNatClampNeg a0)) (upd (ko_places (ko_frames_s ko (upd (ko_frames ko) (ko_units ko).toNatClampNeg a0))) (ko_units (ko_frames_s ko (upd (ko_frames ko) (ko_units ko).toNatClampNeg a0))).toNatClampNeg a1))).toNatClampNeg (ko_length (ko_places_s (ko_frames_s ko (upd (ko_frames ko) (ko_units ko).toNatClampNeg a0)) (upd (ko_places (ko_frames_s ko (upd (ko_frames ko) (ko_units ko).toNatClampNeg a0))) (ko_units (ko_frames_s ko (upd (ko_frames ko) (ko_units ko).toNatClampNeg a0))).toNatClampNeg a1))))) (upd (ko_sizes (ko_firsts_s (ko_places_s (ko_frames_s ko (upd (ko_frames ko) (ko_units ko).toNatClampNeg a0)) (upd (ko_places (ko_frames_s ko (upd (ko_frames ko) (ko_units ko).toNatClampNeg a0))) (ko_units (ko_frames_s ko (upd (ko_frames ko) (ko_units ko).toNatClampNeg a0))).toNatClampNeg a1)) (upd (ko_firsts (ko_places_s (ko_frames_s ko (upd (ko_frames ko) (ko_units ko).toNatClampNeg a0)) (upd (ko_places (ko_frames_s ko (upd (ko_frames ko) (ko_units ko).toNatClampNeg a0))) (ko_units (ko_frames_s ko (upd (ko_frames ko) (ko_units ko).toNatClampNeg a0))).toNatClampNeg a1))) (ko_units (ko_places_s (ko_frames_s ko (upd (ko_frames ko) (ko_units ko).toNatClampNeg a0)) (upd (ko_places (ko_frames_s ko (upd (ko_frames ko) (ko_units ko).toNatClampNeg a0))) (ko_units (ko_frames_s ko (upd (ko_frames ko) (ko_units ko).toNatClampNeg a0))).toNatClampNeg a1))).toNatClampNeg (ko_length (ko_places_s (ko_frames_s ko (upd (ko_frames ko) (ko_units ko).toNatClampNeg a0)) (upd (ko_places (ko_frames_s ko (upd (ko_frames ko) (ko_units ko).toNatClampNeg a0))) (ko_units (ko_frames_s ko (upd (ko_frames ko) (ko_units ko).toNatClampNeg a0))).toNatClampNeg a1)))))) (ko_units (ko_firsts_s (ko_places_s (ko_frames_s ko (upd (ko_frames ko) (ko_units ko).toNatClampNeg a0)) (upd (ko_places (ko_frames_s ko (upd (ko_frames ko) (ko_units ko).toNatClampNeg a0))) (ko_units (ko_frames_s ko (upd (ko_frames ko) (ko_units ko).toNatClampNeg a0))).toNatClampNeg a1)) (upd (ko_firsts (ko_places_s (ko_frames_s ko (upd (ko_frames ko) (ko_units ko).toNatClampNeg a0)) (upd (ko_places (ko_frames_s ko (upd (ko_frames ko) (ko_units ko).toNatClampNeg a0))) (ko_units (ko_frames_s ko (upd (ko_frames ko) (ko_units ko).toNatClampNeg a0))).toNatClampNeg a1))) (ko_units (ko_places_s (ko_frames_s ko (upd (ko_frames ko) (ko_units ko).toNatClampNeg a0)) (upd (ko_places (ko_frames_s ko (upd (ko_frames ko) (ko_units ko).toNatClampNeg a0))) (ko_units (ko_frames_s ko (upd (ko_frames ko) (ko_units ko).toNatClampNeg a0))).toNatClampNeg a1))).toNatClampNeg (ko_length (ko_places_s (ko_frames_s ko (upd (ko_frames ko) (ko_units ko).toNatClampNeg a0)) (upd (ko_places (ko_frames_s ko (upd (ko_frames ko) (ko_units ko).toNatClampNeg a0))) (ko_units (ko_frames_s ko (upd (ko_frames ko) (ko_units ko).toNatClampNeg a0))).toNatClampNeg a1)))))).toNatClampNeg (0 : Int32)))) + (1 : Int32)))))))))
def rm_Co_appendUnit : Jvm.Room := { frames := 1, cells := 0, slots := 0, locals := 20 }
set_option maxHeartbeats 4000000 in
set_option maxRecDepth 100000 in
theorem c_Co_appendUnit {l : Launch} {D : va_G} {cI cL : ClassId} {ad : Nat → Nat} {ma : T_ma} {ko : T_ko} {sh : T_sh} {lo : T_lo} {de : T_de} {wa : T_wa} {me : T_me} {ru : T_ru} {ws0 : va_W} {sz n : Nat} {a0 : Int32} {a1 : Int32} {r9 : Int32} {ko9 : T_ko} (hw : ws0 = (wX cI cL ad ma ko sh lo de wa me ru)) (h : r_Co_appendUnit n ko a0 a1 = some (r9, ko9)) : Met l y_Co_appendUnit (Cond.code y_Co_appendUnit b_Co_appendUnit 3 (some .int) :: TB) rm_Co_appendUnit (PreW D clX (tyX cI cL) ws0 [.ref (ad 1), .int a0, .int a1] sz) (PstI D clX (tyX cI cL) ws0 (wX cI cL ad ma (ko9) sh lo de wa me ru) sz r9) 0 0 (va_A ws0 sz) := by
  refine k_met (by decide) (Nat.le_of_ble_eq_true rfl) ?_
  intro p e s m below meth c ls hx hb hr hml hts hown hlk hnm hsz hP hK hD hA hz hl
  have hP : va_P D clX (wX cI cL ad ma ko sh lo de wa me ru) s.heap := by rw [← hw]; exact hP
  have hD : va_D (va_A ws0 sz) (wX cI cL ad ma ko sh lo de wa me ru) := by rw [← hw]; exact hD
  have hS : va_S (va_A ws0 sz) s.heap s.heap [] := va_S.rf
  have hl : lv_has ls 3 [(0, .ref (ad 1)), (1, .int a0), (2, .int a1)] := hl
  generalize hQ : MQ below (PstI D clX (tyX cI cL) ws0 (wX cI cL ad ma (ko9) sh lo de wa me ru) sz r9) [.ref (ad 1), .int a0, .int a1].toArray s 0 0 (va_A ws0 sz) = Q
  unfold r_Co_appendUnit at h
  refine lv_aload_n hx hb d_Co_appendUnit_0 rfl (lv_at hl 0 rfl) ?_
  obtain ⟨q1, hq1, h⟩ := Option.bind_eq_some_iff.mp h
  refine k_I (k_runV ⟨hx, hb, hml, hown, hts⟩ (c_Co_hasRoomForUnit rfl hq1) ok_Co_hasRoomForUnit is_Co_hasRoomForUnit lk_298 rfl rfl ⟨by decide, by decide⟩ hP hK hD hS hA hz (ci := 1) (q0 := 1) rfl rfl ob_Co rfl hl.1 rfl (Nat.le_of_ble_eq_true rfl) d_Co_appendUnit_1 ⟨Nat.zero_le _, Nat.zero_le _⟩) hD hS hA (fun H locs hP hD hS => ?_)
  refine lv_if_ne (tgt := 9) hx hb d_Co_appendUnit_4 (by decide) (fun c2 => ?_) (fun c2 => ?_)
  · rw [if_neg c2] at h
    refine lv_aload_n hx hb d_Co_appendUnit_9 rfl (lv_at hl 0 rfl) ?_
    refine rd_Co_frames hx hb hts hown hK hP lk_28 d_Co_appendUnit_10 ?_
    refine lv_aload_n hx hb d_Co_appendUnit_13 rfl (lv_at hl 0 rfl) ?_
    refine rd_Co_units hx hb hts hown hK hP lk_36 (v := (ko_units ko)) rfl d_Co_appendUnit_14 ?_
    refine lv_iload_n hx hb d_Co_appendUnit_17 rfl (lv_at hl 1 rfl) ?_
    obtain ⟨hi3, h⟩ := ga_some h
    refine st_Co_frames hx hb hK hP hD hS hi3 d_Co_appendUnit_18 (fun H locs hP hD hS => ?_)
    refine lv_aload_n hx hb d_Co_appendUnit_19 rfl (lv_at hl 0 rfl) ?_
    refine rd_Co_places hx hb hts hown hK hP lk_29 d_Co_appendUnit_20 ?_
    refine lv_aload_n hx hb d_Co_appendUnit_23 rfl (lv_at hl 0 rfl) ?_
    refine rd_Co_units hx hb hts hown hK hP lk_36 (v := (ko_units (ko_frames_s ko (upd (ko_frames ko) (ko_units ko).toNatClampNeg a0)))) rfl d_Co_appendUnit_24 ?_
    refine lv_iload_n hx hb d_Co_appendUnit_27 rfl (lv_at hl 2 rfl) ?_
    obtain ⟨hi4, h⟩ := ga_some h
    refine st_Co_places hx hb hK hP hD hS hi4 d_Co_appendUnit_28 (fun H locs hP hD hS => ?_)
    refine lv_aload_n hx hb d_Co_appendUnit_29 rfl (lv_at hl 0 rfl) ?_
    refine rd_Co_firsts hx hb hts hown hK hP lk_30 d_Co_appendUnit_30 ?_
    refine lv_aload_n hx hb d_Co_appendUnit_33 rfl (lv_at hl 0 rfl) ?_
    refine rd_Co_units hx hb hts hown hK hP lk_36 (v := (ko_units (ko_places_s (ko_frames_s ko (upd (ko_frames ko) (ko_units ko).toNatClampNeg a0)) (upd (ko_places (ko_frames_s ko (upd (ko_frames ko) (ko_units ko).toNatClampNeg a0))) (ko_units (ko_frames_s ko (upd (ko_frames ko) (ko_units ko).toNatClampNeg a0))).toNatClampNeg a1)))) rfl d_Co_appendUnit_34 ?_
    refine lv_aload_n hx hb d_Co_appendUnit_37 rfl (lv_at hl 0 rfl) ?_
    refine rd_Co_length hx hb hts hown hK hP lk_37 (v := (ko_length (ko_places_s (ko_frames_s ko (upd (ko_frames ko) (ko_units ko).toNatClampNeg a0)) (upd (ko_places (ko_frames_s ko (upd (ko_frames ko) (ko_units ko).toNatClampNeg a0))) (ko_units (ko_frames_s ko (upd (ko_frames ko) (ko_units ko).toNatClampNeg a0))).toNatClampNeg a1)))) rfl d_Co_appendUnit_38 ?_
    obtain ⟨hi5, h⟩ := ga_some h
    refine st_Co_firsts hx hb hK hP hD hS hi5 d_Co_appendUnit_41 (fun H locs hP hD hS => ?_)
    refine lv_aload_n hx hb d_Co_appendUnit_42 rfl (lv_at hl 0 rfl) ?_
    refine rd_Co_sizes hx hb hts hown hK hP lk_31 d_Co_appendUnit_43 ?_
    refine lv_aload_n hx hb d_Co_appendUnit_46 rfl (lv_at hl 0 rfl) ?_
    refine rd_Co_units hx hb hts hown hK hP lk_36 (v := (ko_units (ko_firsts_s (ko_places_s (ko_frames_s ko (upd (ko_frames ko) (ko_units ko).toNatClampNeg a0)) (upd (ko_places (ko_frames_s ko (upd (ko_frames ko) (ko_units ko).toNatClampNeg a0))) (ko_units (ko_frames_s ko (upd (ko_frames ko) (ko_units ko).toNatClampNeg a0))).toNatClampNeg a1)) (upd (ko_firsts (ko_places_s (ko_frames_s ko (upd (ko_frames ko) (ko_units ko).toNatClampNeg a0)) (upd (ko_places (ko_frames_s ko (upd (ko_frames ko) (ko_units ko).toNatClampNeg a0))) (ko_units (ko_frames_s ko (upd (ko_frames ko) (ko_units ko).toNatClampNeg a0))).toNatClampNeg a1))) (ko_units (ko_places_s (ko_frames_s ko (upd (ko_frames ko) (ko_units ko).toNatClampNeg a0)) (upd (ko_places (ko_frames_s ko (upd (ko_frames ko) (ko_units ko).toNatClampNeg a0))) (ko_units (ko_frames_s ko (upd (ko_frames ko) (ko_units ko).toNatClampNeg a0))).toNatClampNeg a1))).toNatClampNeg (ko_length (ko_places_s (ko_frames_s ko (upd (ko_frames ko) (ko_units ko).toNatClampNeg a0)) (upd (ko_places (ko_frames_s ko (upd (ko_frames ko) (ko_units ko).toNatClampNeg a0))) (ko_units (ko_frames_s ko (upd (ko_frames ko) (ko_units ko).toNatClampNeg a0))).toNatClampNeg a1))))))) rfl d_Co_appendUnit_47 ?_
    refine lv_iconst (v := 0) hx hb d_Co_appendUnit_50 (by decide) ?_
    obtain ⟨hi6, h⟩ := ga_some h
    refine st_Co_sizes hx hb hK hP hD hS hi6 d_Co_appendUnit_51 (fun H locs hP hD hS => ?_)
    refine lv_aload_n hx hb d_Co_appendUnit_52 rfl (lv_at hl 0 rfl) ?_
    refine lv_dup hx hb d_Co_appendUnit_53 rfl ?_
    refine rd_Co_units hx hb hts hown hK hP lk_36 (v := (ko_units (ko_sizes_s (ko_firsts_s (ko_places_s (ko_frames_s ko (upd (ko_frames ko) (ko_units ko).toNatClampNeg a0)) (upd (ko_places (ko_frames_s ko (upd (ko_frames ko) (ko_units ko).toNatClampNeg a0))) (ko_units (ko_frames_s ko (upd (ko_frames ko) (ko_units ko).toNatClampNeg a0))).toNatClampNeg a1)) (upd (ko_firsts (ko_places_s (ko_frames_s ko (upd (ko_frames ko) (ko_units ko).toNatClampNeg a0)) (upd (ko_places (ko_frames_s ko (upd (ko_frames ko) (ko_units ko).toNatClampNeg a0))) (ko_units (ko_frames_s ko (upd (ko_frames ko) (ko_units ko).toNatClampNeg a0))).toNatClampNeg a1))) (ko_units (ko_places_s (ko_frames_s ko (upd (ko_frames ko) (ko_units ko).toNatClampNeg a0)) (upd (ko_places (ko_frames_s ko (upd (ko_frames ko) (ko_units ko).toNatClampNeg a0))) (ko_units (ko_frames_s ko (upd (ko_frames ko) (ko_units ko).toNatClampNeg a0))).toNatClampNeg a1))).toNatClampNeg (ko_length (ko_places_s (ko_frames_s ko (upd (ko_frames ko) (ko_units ko).toNatClampNeg a0)) (upd (ko_places (ko_frames_s ko (upd (ko_frames ko) (ko_units ko).toNatClampNeg a0))) (ko_units (ko_frames_s ko (upd (ko_frames ko) (ko_units ko).toNatClampNeg a0))).toNatClampNeg a1))))) (upd (ko_sizes (ko_firsts_s (ko_places_s (ko_frames_s ko (upd (ko_frames ko) (ko_units ko).toNatClampNeg a0)) (upd (ko_places (ko_frames_s ko (upd (ko_frames ko) (ko_units ko).toNatClampNeg a0))) (ko_units (ko_frames_s ko (upd (ko_frames ko) (ko_units ko).toNatClampNeg a0))).toNatClampNeg a1)) (upd (ko_firsts (ko_places_s (ko_frames_s ko (upd (ko_frames ko) (ko_units ko).toNatClampNeg a0)) (upd (ko_places (ko_frames_s ko (upd (ko_frames ko) (ko_units ko).toNatClampNeg a0))) (ko_units (ko_frames_s ko (upd (ko_frames ko) (ko_units ko).toNatClampNeg a0))).toNatClampNeg a1))) (ko_units (ko_places_s (ko_frames_s ko (upd (ko_frames ko) (ko_units ko).toNatClampNeg a0)) (upd (ko_places (ko_frames_s ko (upd (ko_frames ko) (ko_units ko).toNatClampNeg a0))) (ko_units (ko_frames_s ko (upd (ko_frames ko) (ko_units ko).toNatClampNeg a0))).toNatClampNeg a1))).toNatClampNeg (ko_length (ko_places_s (ko_frames_s ko (upd (ko_frames ko) (ko_units ko).toNatClampNeg a0)) (upd (ko_places (ko_frames_s ko (upd (ko_frames ko) (ko_units ko).toNatClampNeg a0))) (ko_units (ko_frames_s ko (upd (ko_frames ko) (ko_units ko).toNatClampNeg a0))).toNatClampNeg a1)))))) (ko_units (ko_firsts_s (ko_places_s (ko_frames_s ko (upd (ko_frames ko) (ko_units ko).toNatClampNeg a0)) (upd (ko_places (ko_frames_s ko (upd (ko_frames ko) (ko_units ko).toNatClampNeg a0))) (ko_units (ko_frames_s ko (upd (ko_frames ko) (ko_units ko).toNatClampNeg a0))).toNatClampNeg a1)) (upd (ko_firsts (ko_places_s (ko_frames_s ko (upd (ko_frames ko) (ko_units ko).toNatClampNeg a0)) (upd (ko_places (ko_frames_s ko (upd (ko_frames ko) (ko_units ko).toNatClampNeg a0))) (ko_units (ko_frames_s ko (upd (ko_frames ko) (ko_units ko).toNatClampNeg a0))).toNatClampNeg a1))) (ko_units (ko_places_s (ko_frames_s ko (upd (ko_frames ko) (ko_units ko).toNatClampNeg a0)) (upd (ko_places (ko_frames_s ko (upd (ko_frames ko) (ko_units ko).toNatClampNeg a0))) (ko_units (ko_frames_s ko (upd (ko_frames ko) (ko_units ko).toNatClampNeg a0))).toNatClampNeg a1))).toNatClampNeg (ko_length (ko_places_s (ko_frames_s ko (upd (ko_frames ko) (ko_units ko).toNatClampNeg a0)) (upd (ko_places (ko_frames_s ko (upd (ko_frames ko) (ko_units ko).toNatClampNeg a0))) (ko_units (ko_frames_s ko (upd (ko_frames ko) (ko_units ko).toNatClampNeg a0))).toNatClampNeg a1)))))).toNatClampNeg (0 : Int32))))) rfl d_Co_appendUnit_54 ?_
    refine lv_iconst (v := 1) hx hb d_Co_appendUnit_57 (by decide) ?_
    refine lv_iadd hx hb d_Co_appendUnit_58 ?_
    refine wr_Co_units hx hb hts hown hK hP hD hS lk_36 d_Co_appendUnit_59 (fun H locs hP hD hS => ?_)
    refine lv_aload_n hx hb d_Co_appendUnit_62 rfl (lv_at hl 0 rfl) ?_
    refine rd_Co_units hx hb hts hown hK hP lk_36 (v := (ko_units (ko_units_s (ko_sizes_s (ko_firsts_s (ko_places_s (ko_frames_s ko (upd (ko_frames ko) (ko_units ko).toNatClampNeg a0)) (upd (ko_places (ko_frames_s ko (upd (ko_frames ko) (ko_units ko).toNatClampNeg a0))) (ko_units (ko_frames_s ko (upd (ko_frames ko) (ko_units ko).toNatClampNeg a0))).toNatClampNeg a1)) (upd (ko_firsts (ko_places_s (ko_frames_s ko (upd (ko_frames ko) (ko_units ko).toNatClampNeg a0)) (upd (ko_places (ko_frames_s ko (upd (ko_frames ko) (ko_units ko).toNatClampNeg a0))) (ko_units (ko_frames_s ko (upd (ko_frames ko) (ko_units ko).toNatClampNeg a0))).toNatClampNeg a1))) (ko_units (ko_places_s (ko_frames_s ko (upd (ko_frames ko) (ko_units ko).toNatClampNeg a0)) (upd (ko_places (ko_frames_s ko (upd (ko_frames ko) (ko_units ko).toNatClampNeg a0))) (ko_units (ko_frames_s ko (upd (ko_frames ko) (ko_units ko).toNatClampNeg a0))).toNatClampNeg a1))).toNatClampNeg (ko_length (ko_places_s (ko_frames_s ko (upd (ko_frames ko) (ko_units ko).toNatClampNeg a0)) (upd (ko_places (ko_frames_s ko (upd (ko_frames ko) (ko_units ko).toNatClampNeg a0))) (ko_units (ko_frames_s ko (upd (ko_frames ko) (ko_units ko).toNatClampNeg a0))).toNatClampNeg a1))))) (upd (ko_sizes (ko_firsts_s (ko_places_s (ko_frames_s ko (upd (ko_frames ko) (ko_units ko).toNatClampNeg a0)) (upd (ko_places (ko_frames_s ko (upd (ko_frames ko) (ko_units ko).toNatClampNeg a0))) (ko_units (ko_frames_s ko (upd (ko_frames ko) (ko_units ko).toNatClampNeg a0))).toNatClampNeg a1)) (upd (ko_firsts (ko_places_s (ko_frames_s ko (upd (ko_frames ko) (ko_units ko).toNatClampNeg a0)) (upd (ko_places (ko_frames_s ko (upd (ko_frames ko) (ko_units ko).toNatClampNeg a0))) (ko_units (ko_frames_s ko (upd (ko_frames ko) (ko_units ko).toNatClampNeg a0))).toNatClampNeg a1))) (ko_units (ko_places_s (ko_frames_s ko (upd (ko_frames ko) (ko_units ko).toNatClampNeg a0)) (upd (ko_places (ko_frames_s ko (upd (ko_frames ko) (ko_units ko).toNatClampNeg a0))) (ko_units (ko_frames_s ko (upd (ko_frames ko) (ko_units ko).toNatClampNeg a0))).toNatClampNeg a1))).toNatClampNeg (ko_length (ko_places_s (ko_frames_s ko (upd (ko_frames ko) (ko_units ko).toNatClampNeg a0)) (upd (ko_places (ko_frames_s ko (upd (ko_frames ko) (ko_units ko).toNatClampNeg a0))) (ko_units (ko_frames_s ko (upd (ko_frames ko) (ko_units ko).toNatClampNeg a0))).toNatClampNeg a1)))))) (ko_units (ko_firsts_s (ko_places_s (ko_frames_s ko (upd (ko_frames ko) (ko_units ko).toNatClampNeg a0)) (upd (ko_places (ko_frames_s ko (upd (ko_frames ko) (ko_units ko).toNatClampNeg a0))) (ko_units (ko_frames_s ko (upd (ko_frames ko) (ko_units ko).toNatClampNeg a0))).toNatClampNeg a1)) (upd (ko_firsts (ko_places_s (ko_frames_s ko (upd (ko_frames ko) (ko_units ko).toNatClampNeg a0)) (upd (ko_places (ko_frames_s ko (upd (ko_frames ko) (ko_units ko).toNatClampNeg a0))) (ko_units (ko_frames_s ko (upd (ko_frames ko) (ko_units ko).toNatClampNeg a0))).toNatClampNeg a1))) (ko_units (ko_places_s (ko_frames_s ko (upd (ko_frames ko) (ko_units ko).toNatClampNeg a0)) (upd (ko_places (ko_frames_s ko (upd (ko_frames ko) (ko_units ko).toNatClampNeg a0))) (ko_units (ko_frames_s ko (upd (ko_frames ko) (ko_units ko).toNatClampNeg a0))).toNatClampNeg a1))).toNatClampNeg (ko_length (ko_places_s (ko_frames_s ko (upd (ko_frames ko) (ko_units ko).toNatClampNeg a0)) (upd (ko_places (ko_frames_s ko (upd (ko_frames ko) (ko_units ko).toNatClampNeg a0))) (ko_units (ko_frames_s ko (upd (ko_frames ko) (ko_units ko).toNatClampNeg a0))).toNatClampNeg a1)))))).toNatClampNeg (0 : Int32))) ((ko_units (ko_sizes_s (ko_firsts_s (ko_places_s (ko_frames_s ko (upd (ko_frames ko) (ko_units ko).toNatClampNeg a0)) (upd (ko_places (ko_frames_s ko (upd (ko_frames ko) (ko_units ko).toNatClampNeg a0))) (ko_units (ko_frames_s ko (upd (ko_frames ko) (ko_units ko).toNatClampNeg a0))).toNatClampNeg a1)) (upd (ko_firsts (ko_places_s (ko_frames_s ko (upd (ko_frames ko) (ko_units ko).toNatClampNeg a0)) (upd (ko_places (ko_frames_s ko (upd (ko_frames ko) (ko_units ko).toNatClampNeg a0))) (ko_units (ko_frames_s ko (upd (ko_frames ko) (ko_units ko).toNatClampNeg a0))).toNatClampNeg a1))) (ko_units (ko_places_s (ko_frames_s ko (upd (ko_frames ko) (ko_units ko).toNatClampNeg a0)) (upd (ko_places (ko_frames_s ko (upd (ko_frames ko) (ko_units ko).toNatClampNeg a0))) (ko_units (ko_frames_s ko (upd (ko_frames ko) (ko_units ko).toNatClampNeg a0))).toNatClampNeg a1))).toNatClampNeg (ko_length (ko_places_s (ko_frames_s ko (upd (ko_frames ko) (ko_units ko).toNatClampNeg a0)) (upd (ko_places (ko_frames_s ko (upd (ko_frames ko) (ko_units ko).toNatClampNeg a0))) (ko_units (ko_frames_s ko (upd (ko_frames ko) (ko_units ko).toNatClampNeg a0))).toNatClampNeg a1))))) (upd (ko_sizes (ko_firsts_s (ko_places_s (ko_frames_s ko (upd (ko_frames ko) (ko_units ko).toNatClampNeg a0)) (upd (ko_places (ko_frames_s ko (upd (ko_frames ko) (ko_units ko).toNatClampNeg a0))) (ko_units (ko_frames_s ko (upd (ko_frames ko) (ko_units ko).toNatClampNeg a0))).toNatClampNeg a1)) (upd (ko_firsts (ko_places_s (ko_frames_s ko (upd (ko_frames ko) (ko_units ko).toNatClampNeg a0)) (upd (ko_places (ko_frames_s ko (upd (ko_frames ko) (ko_units ko).toNatClampNeg a0))) (ko_units (ko_frames_s ko (upd (ko_frames ko) (ko_units ko).toNatClampNeg a0))).toNatClampNeg a1))) (ko_units (ko_places_s (ko_frames_s ko (upd (ko_frames ko) (ko_units ko).toNatClampNeg a0)) (upd (ko_places (ko_frames_s ko (upd (ko_frames ko) (ko_units ko).toNatClampNeg a0))) (ko_units (ko_frames_s ko (upd (ko_frames ko) (ko_units ko).toNatClampNeg a0))).toNatClampNeg a1))).toNatClampNeg (ko_length (ko_places_s (ko_frames_s ko (upd (ko_frames ko) (ko_units ko).toNatClampNeg a0)) (upd (ko_places (ko_frames_s ko (upd (ko_frames ko) (ko_units ko).toNatClampNeg a0))) (ko_units (ko_frames_s ko (upd (ko_frames ko) (ko_units ko).toNatClampNeg a0))).toNatClampNeg a1)))))) (ko_units (ko_firsts_s (ko_places_s (ko_frames_s ko (upd (ko_frames ko) (ko_units ko).toNatClampNeg a0)) (upd (ko_places (ko_frames_s ko (upd (ko_frames ko) (ko_units ko).toNatClampNeg a0))) (ko_units (ko_frames_s ko (upd (ko_frames ko) (ko_units ko).toNatClampNeg a0))).toNatClampNeg a1)) (upd (ko_firsts (ko_places_s (ko_frames_s ko (upd (ko_frames ko) (ko_units ko).toNatClampNeg a0)) (upd (ko_places (ko_frames_s ko (upd (ko_frames ko) (ko_units ko).toNatClampNeg a0))) (ko_units (ko_frames_s ko (upd (ko_frames ko) (ko_units ko).toNatClampNeg a0))).toNatClampNeg a1))) (ko_units (ko_places_s (ko_frames_s ko (upd (ko_frames ko) (ko_units ko).toNatClampNeg a0)) (upd (ko_places (ko_frames_s ko (upd (ko_frames ko) (ko_units ko).toNatClampNeg a0))) (ko_units (ko_frames_s ko (upd (ko_frames ko) (ko_units ko).toNatClampNeg a0))).toNatClampNeg a1))).toNatClampNeg (ko_length (ko_places_s (ko_frames_s ko (upd (ko_frames ko) (ko_units ko).toNatClampNeg a0)) (upd (ko_places (ko_frames_s ko (upd (ko_frames ko) (ko_units ko).toNatClampNeg a0))) (ko_units (ko_frames_s ko (upd (ko_frames ko) (ko_units ko).toNatClampNeg a0))).toNatClampNeg a1)))))).toNatClampNeg (0 : Int32)))) + (1 : Int32))))) rfl d_Co_appendUnit_63 ?_
    refine lv_iconst (v := 1) hx hb d_Co_appendUnit_66 (by decide) ?_
    refine lv_isub hx hb d_Co_appendUnit_67 ?_
    cases h
    subst hQ
    exact k_iret hx hb hr hlk hP hK hD hS d_Co_appendUnit_68
  · rw [if_pos c2] at h
    refine lv_iconst (v := -1) hx hb d_Co_appendUnit_7 (by decide) ?_
    cases h
    subst hQ
    exact k_iret hx hb hr hlk hP hK hD hS d_Co_appendUnit_8
theorem d_Co_forget_0 : decode b_Co_forget 0 = .ok (.aload_n 0, 1) := by decide +kernel
theorem d_Co_forget_1 : decode b_Co_forget 1 = .ok (.iconst 0, 1) := by decide +kernel
theorem d_Co_forget_2 : decode b_Co_forget 2 = .ok (.putfield 36, 3) := by decide +kernel
theorem d_Co_forget_5 : decode b_Co_forget 5 = .ok (.aload_n 0, 1) := by decide +kernel
theorem d_Co_forget_6 : decode b_Co_forget 6 = .ok (.iconst 0, 1) := by decide +kernel
theorem d_Co_forget_7 : decode b_Co_forget 7 = .ok (.putfield 40, 3) := by decide +kernel
theorem d_Co_forget_10 : decode b_Co_forget 10 = .ok (.return_, 1) := by decide +kernel
def r_Co_forget (n : Nat) (ko : T_ko)  : Option (T_ko) := some ((ko_length_s (ko_units_s ko (0 : Int32)) (0 : Int32)))
def rm_Co_forget : Jvm.Room := { frames := 0, cells := 0, slots := 0, locals := 0 }
set_option maxHeartbeats 4000000 in
set_option maxRecDepth 100000 in
theorem c_Co_forget {l : Launch} {D : va_G} {cI cL : ClassId} {ad : Nat → Nat} {ma : T_ma} {ko : T_ko} {sh : T_sh} {lo : T_lo} {de : T_de} {wa : T_wa} {me : T_me} {ru : T_ru} {ws0 : va_W} {sz n : Nat}  {ko9 : T_ko} (hw : ws0 = (wX cI cL ad ma ko sh lo de wa me ru)) (h : r_Co_forget n ko  = some ko9) : Met l y_Co_forget (Cond.code y_Co_forget b_Co_forget 1 none :: TB) rm_Co_forget (PreW D clX (tyX cI cL) ws0 [.ref (ad 1)] sz) (PstV D clX (tyX cI cL) ws0 (wX cI cL ad ma (ko9) sh lo de wa me ru) sz) 0 0 (va_A ws0 sz) := by
  refine k_met (by decide) (Nat.le_of_ble_eq_true rfl) ?_
  intro p e s m below meth c ls hx hb hr hml hts hown hlk hnm hsz hP hK hD hA hz hl
  have hP : va_P D clX (wX cI cL ad ma ko sh lo de wa me ru) s.heap := by rw [← hw]; exact hP
  have hD : va_D (va_A ws0 sz) (wX cI cL ad ma ko sh lo de wa me ru) := by rw [← hw]; exact hD
  have hS : va_S (va_A ws0 sz) s.heap s.heap [] := va_S.rf
  have hl : lv_has ls 1 [(0, .ref (ad 1))] := hl
  generalize hQ : MQ below (PstV D clX (tyX cI cL) ws0 (wX cI cL ad ma (ko9) sh lo de wa me ru) sz) [.ref (ad 1)].toArray s 0 0 (va_A ws0 sz) = Q
  unfold r_Co_forget at h
  refine lv_aload_n hx hb d_Co_forget_0 rfl (lv_at hl 0 rfl) ?_
  refine lv_iconst (v := 0) hx hb d_Co_forget_1 (by decide) ?_
  refine wr_Co_units hx hb hts hown hK hP hD hS lk_36 d_Co_forget_2 (fun H locs hP hD hS => ?_)
  refine lv_aload_n hx hb d_Co_forget_5 rfl (lv_at hl 0 rfl) ?_
  refine lv_iconst (v := 0) hx hb d_Co_forget_6 (by decide) ?_
  refine wr_Co_length hx hb hts hown hK hP hD hS lk_37 d_Co_forget_7 (fun H locs hP hD hS => ?_)
  cases h
  subst hQ
  exact k_vret hx hb hr hlk hP hK hD hS d_Co_forget_10
