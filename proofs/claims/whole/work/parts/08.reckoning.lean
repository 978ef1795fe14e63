/-! printed by wip/gen/gen3.py: pure functions and contracts of ScanMachine$Reckoning -/
theorem d_Re_flag_0 : decode b_Re_flag 0 = .ok (.iload_n 0, 1) := by decide +kernel
theorem d_Re_flag_1 : decode b_Re_flag 1 = .ok (.ifCond .eq 7, 3) := by decide +kernel
theorem d_Re_flag_4 : decode b_Re_flag 4 = .ok (.iconst 1, 1) := by decide +kernel
theorem d_Re_flag_5 : decode b_Re_flag 5 = .ok (.goto 4, 3) := by decide +kernel
theorem d_Re_flag_8 : decode b_Re_flag 8 = .ok (.iconst 0, 1) := by decide +kernel
theorem d_Re_flag_9 : decode b_Re_flag 9 = .ok (.ireturn, 1) := by decide +kernel
def r_Re_flag (n : Nat)  (a0 : Int32) : Option (Int32) := if a0 = 0 then some ((0 : Int32)) else some ((1 : Int32))
def rm_Re_flag : Jvm.Room := { frames := 0, cells := 0, slots := 0, locals := 0 }
set_option maxHeartbeats 4000000 in
set_option maxRecDepth 100000 in
theorem c_Re_flag {l : Launch} {D : va_G} {cl : List vw_C} {tys : List (ClassId × FieldType)} {ws0 : va_W} {sz n : Nat} {a0 : Int32} {r9 : Int32} (h : r_Re_flag n  a0 = some r9) : Met l y_Re_flag (Cond.code y_Re_flag b_Re_flag 1 (some .int) :: TB) rm_Re_flag (PreW D cl tys ws0 [.int a0] sz) (PstI D cl tys ws0 ws0 sz r9) 0 0 (va_A ws0 sz) := by
  refine k_met (by decide) (Nat.le_of_ble_eq_true rfl) ?_
  intro p e s m below meth c ls hx hb hr hml hts hown hlk hnm hsz hP hK hD hA hz hl
  have hS : va_S (va_A ws0 sz) s.heap s.heap [] := va_S.rf
  have hl : lv_has ls 1 [(0, .int a0)] := hl
  generalize hQ : MQ below (PstI D cl tys ws0 ws0 sz r9) [.int a0].toArray s 0 0 (va_A ws0 sz) = Q
  unfold r_Re_flag at h
  refine lv_iload_n hx hb d_Re_flag_0 rfl (lv_at hl 0 rfl) ?_
  refine lv_if_eq (tgt := 8) hx hb d_Re_flag_1 (by decide) (fun c1 => ?_) (fun c1 => ?_)
  · rw [if_pos c1] at h
    refine lv_iconst (v := 0) hx hb d_Re_flag_8 (by decide) ?_
    cases h
    subst hQ
    exact k_iret hx hb hr hlk hP hK hD hS d_Re_flag_9
  · rw [if_neg c1] at h
    refine lv_iconst (v := 1) hx hb d_Re_flag_4 (by decide) ?_
    refine lv_goto (tgt := 9) hx hb d_Re_flag_5 (by decide) ?_
    cases h
    subst hQ
    exact k_iret hx hb hr hlk hP hK hD hS d_Re_flag_9
theorem d_Re_narrow_0 : decode b_Re_narrow 0 = .ok (.iload_n 0, 1) := by decide +kernel
theorem d_Re_narrow_1 : decode b_Re_narrow 1 = .ok (.i2s, 1) := by decide +kernel
theorem d_Re_narrow_2 : decode b_Re_narrow 2 = .ok (.ireturn, 1) := by decide +kernel
def r_Re_narrow (n : Nat)  (a0 : Int32) : Option (Int32) := some (a0.toInt16.toInt32)
def rm_Re_narrow : Jvm.Room := { frames := 0, cells := 0, slots := 0, locals := 0 }
set_option maxHeartbeats 4000000 in
set_option maxRecDepth 100000 in
theorem c_Re_narrow {l : Launch} {D : va_G} {cl : List vw_C} {tys : List (ClassId × FieldType)} {ws0 : va_W} {sz n : Nat} {a0 : Int32} {r9 : Int32} (h : r_Re_narrow n  a0 = some r9) : Met l y_Re_narrow (Cond.code y_Re_narrow b_Re_narrow 1 (some .int) :: TB) rm_Re_narrow (PreW D cl tys ws0 [.int a0] sz) (PstI D cl tys ws0 ws0 sz r9) 0 0 (va_A ws0 sz) := by
  refine k_met (by decide) (Nat.le_of_ble_eq_true rfl) ?_
  intro p e s m below meth c ls hx hb hr hml hts hown hlk hnm hsz hP hK hD hA hz hl
  have hS : va_S (va_A ws0 sz) s.heap s.heap [] := va_S.rf
  have hl : lv_has ls 1 [(0, .int a0)] := hl
  generalize hQ : MQ below (PstI D cl tys ws0 ws0 sz r9) [.int a0].toArray s 0 0 (va_A ws0 sz) = Q
  unfold r_Re_narrow at h
  refine lv_iload_n hx hb d_Re_narrow_0 rfl (lv_at hl 0 rfl) ?_
  refine lv_i2s (v := a0.toInt16.toInt32) hx hb d_Re_narrow_1 rfl ?_
  cases h
  subst hQ
  exact k_iret hx hb hr hlk hP hK hD hS d_Re_narrow_2
theorem d_Re_ofOne_0 : decode b_Re_ofOne 0 = .ok (.iload_n 0, 1) := by decide +kernel
theorem d_Re_ofOne_1 : decode b_Re_ofOne 1 = .ok (.tableswitch 99 0 6 #[43, 49, 52, 65, 69, 83, 94], 43) := by decide +kernel
theorem d_Re_ofOne_44 : decode b_Re_ofOne 44 = .ok (.iload_n 1, 1) := by decide +kernel
theorem d_Re_ofOne_45 : decode b_Re_ofOne 45 = .ok (.ineg, 1) := by decide +kernel
theorem d_Re_ofOne_46 : decode b_Re_ofOne 46 = .ok (.invokestatic 13, 3) := by decide +kernel
theorem d_Re_ofOne_49 : decode b_Re_ofOne 49 = .ok (.ireturn, 1) := by decide +kernel
theorem d_Re_ofOne_50 : decode b_Re_ofOne 50 = .ok (.iload_n 1, 1) := by decide +kernel
theorem d_Re_ofOne_51 : decode b_Re_ofOne 51 = .ok (.ineg, 1) := by decide +kernel
theorem d_Re_ofOne_52 : decode b_Re_ofOne 52 = .ok (.ireturn, 1) := by decide +kernel
theorem d_Re_ofOne_53 : decode b_Re_ofOne 53 = .ok (.iload_n 1, 1) := by decide +kernel
theorem d_Re_ofOne_54 : decode b_Re_ofOne 54 = .ok (.ifCond .ne 7, 3) := by decide +kernel
theorem d_Re_ofOne_57 : decode b_Re_ofOne 57 = .ok (.iconst 1, 1) := by decide +kernel
theorem d_Re_ofOne_58 : decode b_Re_ofOne 58 = .ok (.goto 4, 3) := by decide +kernel
theorem d_Re_ofOne_61 : decode b_Re_ofOne 61 = .ok (.iconst 0, 1) := by decide +kernel
theorem d_Re_ofOne_62 : decode b_Re_ofOne 62 = .ok (.invokestatic 23, 3) := by decide +kernel
theorem d_Re_ofOne_65 : decode b_Re_ofOne 65 = .ok (.ireturn, 1) := by decide +kernel
theorem d_Re_ofOne_66 : decode b_Re_ofOne 66 = .ok (.iload_n 1, 1) := by decide +kernel
theorem d_Re_ofOne_67 : decode b_Re_ofOne 67 = .ok (.iconst (-1), 1) := by decide +kernel
theorem d_Re_ofOne_68 : decode b_Re_ofOne 68 = .ok (.ixor, 1) := by decide +kernel
theorem d_Re_ofOne_69 : decode b_Re_ofOne 69 = .ok (.ireturn, 1) := by decide +kernel
theorem d_Re_ofOne_70 : decode b_Re_ofOne 70 = .ok (.iload_n 1, 1) := by decide +kernel
theorem d_Re_ofOne_71 : decode b_Re_ofOne 71 = .ok (.ifCond .ge 8, 3) := by decide +kernel
theorem d_Re_ofOne_74 : decode b_Re_ofOne 74 = .ok (.iload_n 1, 1) := by decide +kernel
theorem d_Re_ofOne_75 : decode b_Re_ofOne 75 = .ok (.ineg, 1) := by decide +kernel
theorem d_Re_ofOne_76 : decode b_Re_ofOne 76 = .ok (.goto 4, 3) := by decide +kernel
theorem d_Re_ofOne_79 : decode b_Re_ofOne 79 = .ok (.iload_n 1, 1) := by decide +kernel
theorem d_Re_ofOne_80 : decode b_Re_ofOne 80 = .ok (.invokestatic 13, 3) := by decide +kernel
theorem d_Re_ofOne_83 : decode b_Re_ofOne 83 = .ok (.ireturn, 1) := by decide +kernel
theorem d_Re_ofOne_84 : decode b_Re_ofOne 84 = .ok (.iload_n 1, 1) := by decide +kernel
theorem d_Re_ofOne_85 : decode b_Re_ofOne 85 = .ok (.ifCond .ge 8, 3) := by decide +kernel
theorem d_Re_ofOne_88 : decode b_Re_ofOne 88 = .ok (.iload_n 1, 1) := by decide +kernel
theorem d_Re_ofOne_89 : decode b_Re_ofOne 89 = .ok (.ineg, 1) := by decide +kernel
theorem d_Re_ofOne_90 : decode b_Re_ofOne 90 = .ok (.goto 4, 3) := by decide +kernel
theorem d_Re_ofOne_93 : decode b_Re_ofOne 93 = .ok (.iload_n 1, 1) := by decide +kernel
theorem d_Re_ofOne_94 : decode b_Re_ofOne 94 = .ok (.ireturn, 1) := by decide +kernel
theorem d_Re_ofOne_95 : decode b_Re_ofOne 95 = .ok (.iload_n 1, 1) := by decide +kernel
theorem d_Re_ofOne_96 : decode b_Re_ofOne 96 = .ok (.invokestatic 13, 3) := by decide +kernel
theorem d_Re_ofOne_99 : decode b_Re_ofOne 99 = .ok (.ireturn, 1) := by decide +kernel
theorem d_Re_ofOne_100 : decode b_Re_ofOne 100 = .ok (.iload_n 1, 1) := by decide +kernel
theorem d_Re_ofOne_101 : decode b_Re_ofOne 101 = .ok (.ifCond .eq 7, 3) := by decide +kernel
theorem d_Re_ofOne_104 : decode b_Re_ofOne 104 = .ok (.iconst 1, 1) := by decide +kernel
theorem d_Re_ofOne_105 : decode b_Re_ofOne 105 = .ok (.goto 4, 3) := by decide +kernel
theorem d_Re_ofOne_108 : decode b_Re_ofOne 108 = .ok (.iconst 0, 1) := by decide +kernel
theorem d_Re_ofOne_109 : decode b_Re_ofOne 109 = .ok (.invokestatic 23, 3) := by decide +kernel
theorem d_Re_ofOne_112 : decode b_Re_ofOne 112 = .ok (.ireturn, 1) := by decide +kernel
def r_Re_ofOne (n : Nat)  (a0 : Int32) (a1 : Int32) : Option (Int32) := if a0 = (0 : Int32) then (r_Re_narrow n (-a1)).bind (fun q2 => some (q2)) else if a0 = (1 : Int32) then some ((-a1)) else if a0 = (2 : Int32) then if a1 = 0 then (r_Re_flag n (1 : Int32)).bind (fun q7 => some (q7)) else (r_Re_flag n (0 : Int32)).bind (fun q6 => some (q6)) else if a0 = (3 : Int32) then some ((a1 ^^^ (-1 : Int32))) else if a0 = (4 : Int32) then if 0 ≤ a1 then (r_Re_narrow n a1).bind (fun q11 => some (q11)) else (r_Re_narrow n (-a1)).bind (fun q12 => some (q12)) else if a0 = (5 : Int32) then if 0 ≤ a1 then some (a1) else some ((-a1)) else if a0 = (6 : Int32) then (r_Re_narrow n a1).bind (fun q16 => some (q16)) else if a1 = 0 then (r_Re_flag n (0 : Int32)).bind (fun q18 => some (q18)) else (r_Re_flag n (1 : Int32)).bind (fun q19 => some (q19))
def rm_Re_ofOne : Jvm.Room := { frames := 1, cells := 0, slots := 0, locals := 20 }
set_option maxHeartbeats 4000000 in
set_option maxRecDepth 100000 in
theorem c_Re_ofOne {l : Launch} {D : va_G} {cl : List vw_C} {tys : List (ClassId × FieldType)} {ws0 : va_W} {sz n : Nat} {a0 : Int32} {a1 : Int32} {r9 : Int32} (h : r_Re_ofOne n  a0 a1 = some r9) : Met l y_Re_ofOne (Cond.code y_Re_ofOne b_Re_ofOne 2 (some .int) :: TB) rm_Re_ofOne (PreW D cl tys ws0 [.int a0, .int a1] sz) (PstI D cl tys ws0 ws0 sz r9) 0 0 (va_A ws0 sz) := by
  refine k_met (by decide) (Nat.le_of_ble_eq_true rfl) ?_
  intro p e s m below meth c ls hx hb hr hml hts hown hlk hnm hsz hP hK hD hA hz hl
  have hS : va_S (va_A ws0 sz) s.heap s.heap [] := va_S.rf
  have hl : lv_has ls 2 [(0, .int a0), (1, .int a1)] := hl
  generalize hQ : MQ below (PstI D cl tys ws0 ws0 sz r9) [.int a0, .int a1].toArray s 0 0 (va_A ws0 sz) = Q
  unfold r_Re_ofOne at h
  refine lv_iload_n hx hb d_Re_ofOne_0 rfl (lv_at hl 0 rfl) ?_
  by_cases c1 : a0 = (0 : Int32)
  · rw [if_pos c1] at h
    refine k_sw c1 ?_
    refine lv_tableIn (tgt := 44) hx hb d_Re_ofOne_1 (by decide) (by decide) rfl (by decide) ?_
    refine lv_iload_n hx hb d_Re_ofOne_44 rfl (lv_at hl 1 rfl) ?_
    refine lv_ineg hx hb d_Re_ofOne_45 ?_
    obtain ⟨q2, hq2, h⟩ := Option.bind_eq_some_iff.mp h
    refine k_I (k_runS ⟨hx, hb, hml, hown, hts⟩ (c_Re_narrow hq2) ok_Re_narrow is_Re_narrow lk_577 rfl rfl ⟨by decide, by decide⟩ hP hK hD hS hA hz rfl hl.1 rfl (Nat.le_of_ble_eq_true rfl) d_Re_ofOne_46 ⟨Nat.zero_le _, Nat.zero_le _⟩) hD hS hA (fun H locs hP hD hS => ?_)
    cases h
    subst hQ
    exact k_iret hx hb hr hlk hP hK hD hS d_Re_ofOne_49
  · rw [if_neg c1] at h
    by_cases c3 : a0 = (1 : Int32)
    · rw [if_pos c3] at h
      refine k_sw c3 ?_
      refine lv_tableIn (tgt := 50) hx hb d_Re_ofOne_1 (by decide) (by decide) rfl (by decide) ?_
      refine lv_iload_n hx hb d_Re_ofOne_50 rfl (lv_at hl 1 rfl) ?_
      refine lv_ineg hx hb d_Re_ofOne_51 ?_
      cases h
      subst hQ
      exact k_iret hx hb hr hlk hP hK hD hS d_Re_ofOne_52
    · rw [if_neg c3] at h
      by_cases c4 : a0 = (2 : Int32)
      · rw [if_pos c4] at h
        refine k_sw c4 ?_
        refine lv_tableIn (tgt := 53) hx hb d_Re_ofOne_1 (by decide) (by decide) rfl (by decide) ?_
        refine lv_iload_n hx hb d_Re_ofOne_53 rfl (lv_at hl 1 rfl) ?_
        refine lv_if_ne (tgt := 61) hx hb d_Re_ofOne_54 (by decide) (fun c5 => ?_) (fun c5 => ?_)
        · rw [if_neg c5] at h
          refine lv_iconst (v := 0) hx hb d_Re_ofOne_61 (by decide) ?_
          obtain ⟨q6, hq6, h⟩ := Option.bind_eq_some_iff.mp h
          refine k_I (k_runS ⟨hx, hb, hml, hown, hts⟩ (c_Re_flag hq6) ok_Re_flag is_Re_flag lk_580 rfl rfl ⟨by decide, by decide⟩ hP hK hD hS hA hz rfl hl.1 rfl (Nat.le_of_ble_eq_true rfl) d_Re_ofOne_62 ⟨Nat.zero_le _, Nat.zero_le _⟩) hD hS hA (fun H locs hP hD hS => ?_)
          cases h
          subst hQ
          exact k_iret hx hb hr hlk hP hK hD hS d_Re_ofOne_65
        · rw [if_pos c5] at h
          refine lv_iconst (v := 1) hx hb d_Re_ofOne_57 (by decide) ?_
          refine lv_goto (tgt := 62) hx hb d_Re_ofOne_58 (by decide) ?_
          obtain ⟨q7, hq7, h⟩ := Option.bind_eq_some_iff.mp h
          refine k_I (k_runS ⟨hx, hb, hml, hown, hts⟩ (c_Re_flag hq7) ok_Re_flag is_Re_flag lk_580 rfl rfl ⟨by decide, by decide⟩ hP hK hD hS hA hz rfl hl.1 rfl (Nat.le_of_ble_eq_true rfl) d_Re_ofOne_62 ⟨Nat.zero_le _, Nat.zero_le _⟩) hD hS hA (fun H locs hP hD hS => ?_)
          cases h
          subst hQ
          exact k_iret hx hb hr hlk hP hK hD hS d_Re_ofOne_65
      · rw [if_neg c4] at h
        by_cases c8 : a0 = (3 : Int32)
        · rw [if_pos c8] at h
          refine k_sw c8 ?_
          refine lv_tableIn (tgt := 66) hx hb d_Re_ofOne_1 (by decide) (by decide) rfl (by decide) ?_
          refine lv_iload_n hx hb d_Re_ofOne_66 rfl (lv_at hl 1 rfl) ?_
          refine lv_iconst (v := -1) hx hb d_Re_ofOne_67 (by decide) ?_
          refine lv_ixor hx hb d_Re_ofOne_68 ?_
          cases h
          subst hQ
          exact k_iret hx hb hr hlk hP hK hD hS d_Re_ofOne_69
        · rw [if_neg c8] at h
          by_cases c9 : a0 = (4 : Int32)
          · rw [if_pos c9] at h
            refine k_sw c9 ?_
            refine lv_tableIn (tgt := 70) hx hb d_Re_ofOne_1 (by decide) (by decide) rfl (by decide) ?_
            refine lv_iload_n hx hb d_Re_ofOne_70 rfl (lv_at hl 1 rfl) ?_
            refine lv_if_ge (tgt := 79) hx hb d_Re_ofOne_71 (by decide) (fun c10 => ?_) (fun c10 => ?_)
            · rw [if_pos c10] at h
              refine lv_iload_n hx hb d_Re_ofOne_79 rfl (lv_at hl 1 rfl) ?_
              obtain ⟨q11, hq11, h⟩ := Option.bind_eq_some_iff.mp h
              refine k_I (k_runS ⟨hx, hb, hml, hown, hts⟩ (c_Re_narrow hq11) ok_Re_narrow is_Re_narrow lk_577 rfl rfl ⟨by decide, by decide⟩ hP hK hD hS hA hz rfl hl.1 rfl (Nat.le_of_ble_eq_true rfl) d_Re_ofOne_80 ⟨Nat.zero_le _, Nat.zero_le _⟩) hD hS hA (fun H locs hP hD hS => ?_)
              cases h
              subst hQ
              exact k_iret hx hb hr hlk hP hK hD hS d_Re_ofOne_83
            · rw [if_neg c10] at h
              refine lv_iload_n hx hb d_Re_ofOne_74 rfl (lv_at hl 1 rfl) ?_
              refine lv_ineg hx hb d_Re_ofOne_75 ?_
              refine lv_goto (tgt := 80) hx hb d_Re_ofOne_76 (by decide) ?_
              obtain ⟨q12, hq12, h⟩ := Option.bind_eq_some_iff.mp h
              refine k_I (k_runS ⟨hx, hb, hml, hown, hts⟩ (c_Re_narrow hq12) ok_Re_narrow is_Re_narrow lk_577 rfl rfl ⟨by decide, by decide⟩ hP hK hD hS hA hz rfl hl.1 rfl (Nat.le_of_ble_eq_true rfl) d_Re_ofOne_80 ⟨Nat.zero_le _, Nat.zero_le _⟩) hD hS hA (fun H locs hP hD hS => ?_)
              cases h
              subst hQ
              exact k_iret hx hb hr hlk hP hK hD hS d_Re_ofOne_83
          · rw [if_neg c9] at h
            by_cases c13 : a0 = (5 : Int32)
            · rw [if_pos c13] at h
              refine k_sw c13 ?_
              refine lv_tableIn (tgt := 84) hx hb d_Re_ofOne_1 (by decide) (by decide) rfl (by decide) ?_
              refine lv_iload_n hx hb d_Re_ofOne_84 rfl (lv_at hl 1 rfl) ?_
              refine lv_if_ge (tgt := 93) hx hb d_Re_ofOne_85 (by decide) (fun c14 => ?_) (fun c14 => ?_)
              · rw [if_pos c14] at h
                refine lv_iload_n hx hb d_Re_ofOne_93 rfl (lv_at hl 1 rfl) ?_
                cases h
                subst hQ
                exact k_iret hx hb hr hlk hP hK hD hS d_Re_ofOne_94
              · rw [if_neg c14] at h
                refine lv_iload_n hx hb d_Re_ofOne_88 rfl (lv_at hl 1 rfl) ?_
                refine lv_ineg hx hb d_Re_ofOne_89 ?_
                refine lv_goto (tgt := 94) hx hb d_Re_ofOne_90 (by decide) ?_
                cases h
                subst hQ
                exact k_iret hx hb hr hlk hP hK hD hS d_Re_ofOne_94
            · rw [if_neg c13] at h
              by_cases c15 : a0 = (6 : Int32)
              · rw [if_pos c15] at h
                refine k_sw c15 ?_
                refine lv_tableIn (tgt := 95) hx hb d_Re_ofOne_1 (by decide) (by decide) rfl (by decide) ?_
                refine lv_iload_n hx hb d_Re_ofOne_95 rfl (lv_at hl 1 rfl) ?_
                obtain ⟨q16, hq16, h⟩ := Option.bind_eq_some_iff.mp h
                refine k_I (k_runS ⟨hx, hb, hml, hown, hts⟩ (c_Re_narrow hq16) ok_Re_narrow is_Re_narrow lk_577 rfl rfl ⟨by decide, by decide⟩ hP hK hD hS hA hz rfl hl.1 rfl (Nat.le_of_ble_eq_true rfl) d_Re_ofOne_96 ⟨Nat.zero_le _, Nat.zero_le _⟩) hD hS hA (fun H locs hP hD hS => ?_)
                cases h
                subst hQ
                exact k_iret hx hb hr hlk hP hK hD hS d_Re_ofOne_99
              · rw [if_neg c15] at h
                refine lv_tableOut (tgt := 100) hx hb d_Re_ofOne_1 (by have ec1 := lv_neT c1 (a := 0) (by decide); have ec3 := lv_neT c3 (a := 1) (by decide); have ec4 := lv_neT c4 (a := 2) (by decide); have ec8 := lv_neT c8 (a := 3) (by decide); have ec9 := lv_neT c9 (a := 4) (by decide); have ec13 := lv_neT c13 (a := 5) (by decide); have ec15 := lv_neT c15 (a := 6) (by decide); omega) (by decide) ?_
                refine lv_iload_n hx hb d_Re_ofOne_100 rfl (lv_at hl 1 rfl) ?_
                refine lv_if_eq (tgt := 108) hx hb d_Re_ofOne_101 (by decide) (fun c17 => ?_) (fun c17 => ?_)
                · rw [if_pos c17] at h
                  refine lv_iconst (v := 0) hx hb d_Re_ofOne_108 (by decide) ?_
                  obtain ⟨q18, hq18, h⟩ := Option.bind_eq_some_iff.mp h
                  refine k_I (k_runS ⟨hx, hb, hml, hown, hts⟩ (c_Re_flag hq18) ok_Re_flag is_Re_flag lk_580 rfl rfl ⟨by decide, by decide⟩ hP hK hD hS hA hz rfl hl.1 rfl (Nat.le_of_ble_eq_true rfl) d_Re_ofOne_109 ⟨Nat.zero_le _, Nat.zero_le _⟩) hD hS hA (fun H locs hP hD hS => ?_)
                  cases h
                  subst hQ
                  exact k_iret hx hb hr hlk hP hK hD hS d_Re_ofOne_112
                · rw [if_neg c17] at h
                  refine lv_iconst (v := 1) hx hb d_Re_ofOne_104 (by decide) ?_
                  refine lv_goto (tgt := 109) hx hb d_Re_ofOne_105 (by decide) ?_
                  obtain ⟨q19, hq19, h⟩ := Option.bind_eq_some_iff.mp h
                  refine k_I (k_runS ⟨hx, hb, hml, hown, hts⟩ (c_Re_flag hq19) ok_Re_flag is_Re_flag lk_580 rfl rfl ⟨by decide, by decide⟩ hP hK hD hS hA hz rfl hl.1 rfl (Nat.le_of_ble_eq_true rfl) d_Re_ofOne_109 ⟨Nat.zero_le _, Nat.zero_le _⟩) hD hS hA (fun H locs hP hD hS => ?_)
                  cases h
                  subst hQ
                  exact k_iret hx hb hr hlk hP hK hD hS d_Re_ofOne_112
theorem d_Re_divides_0 : decode b_Re_divides 0 = .ok (.iload_n 0, 1) := by decide +kernel
theorem d_Re_divides_1 : decode b_Re_divides 1 = .ok (.iconst 3, 1) := by decide +kernel
theorem d_Re_divides_2 : decode b_Re_divides 2 = .ok (.if_icmp .eq 20, 3) := by decide +kernel
theorem d_Re_divides_5 : decode b_Re_divides 5 = .ok (.iload_n 0, 1) := by decide +kernel
theorem d_Re_divides_6 : decode b_Re_divides 6 = .ok (.iconst 4, 1) := by decide +kernel
theorem d_Re_divides_7 : decode b_Re_divides 7 = .ok (.if_icmp .eq 15, 3) := by decide +kernel
theorem d_Re_divides_10 : decode b_Re_divides 10 = .ok (.iload_n 0, 1) := by decide +kernel
theorem d_Re_divides_11 : decode b_Re_divides 11 = .ok (.bipush 8, 2) := by decide +kernel
theorem d_Re_divides_13 : decode b_Re_divides 13 = .ok (.if_icmp .eq 9, 3) := by decide +kernel
theorem d_Re_divides_16 : decode b_Re_divides 16 = .ok (.iload_n 0, 1) := by decide +kernel
theorem d_Re_divides_17 : decode b_Re_divides 17 = .ok (.bipush 9, 2) := by decide +kernel
theorem d_Re_divides_19 : decode b_Re_divides 19 = .ok (.if_icmp .ne 7, 3) := by decide +kernel
theorem d_Re_divides_22 : decode b_Re_divides 22 = .ok (.iconst 1, 1) := by decide +kernel
theorem d_Re_divides_23 : decode b_Re_divides 23 = .ok (.goto 4, 3) := by decide +kernel
theorem d_Re_divides_26 : decode b_Re_divides 26 = .ok (.iconst 0, 1) := by decide +kernel
theorem d_Re_divides_27 : decode b_Re_divides 27 = .ok (.ireturn, 1) := by decide +kernel
def r_Re_divides (n : Nat)  (a0 : Int32) : Option (Int32) := if a0 = (3 : Int32) then some ((1 : Int32)) else if a0 = (4 : Int32) then some ((1 : Int32)) else if a0 = (8 : Int32) then some ((1 : Int32)) else if a0 = (9 : Int32) then some ((1 : Int32)) else some ((0 : Int32))
def rm_Re_divides : Jvm.Room := { frames := 0, cells := 0, slots := 0, locals := 0 }
set_option maxHeartbeats 4000000 in
set_option maxRecDepth 100000 in
theorem c_Re_divides {l : Launch} {D : va_G} {cl : List vw_C} {tys : List (ClassId × FieldType)} {ws0 : va_W} {sz n : Nat} {a0 : Int32} {r9 : Int32} (h : r_Re_divides n  a0 = some r9) : Met l y_Re_divides (Cond.code y_Re_divides b_Re_divides 1 (some .boolean) :: TB) rm_Re_divides (PreW D cl tys ws0 [.int a0] sz) (PstI D cl tys ws0 ws0 sz r9) 0 0 (va_A ws0 sz) := by
  refine k_met (by decide) (Nat.le_of_ble_eq_true rfl) ?_
  intro p e s m below meth c ls hx hb hr hml hts hown hlk hnm hsz hP hK hD hA hz hl
  have hS : va_S (va_A ws0 sz) s.heap s.heap [] := va_S.rf
  have hl : lv_has ls 1 [(0, .int a0)] := hl
  generalize hQ : MQ below (PstI D cl tys ws0 ws0 sz r9) [.int a0].toArray s 0 0 (va_A ws0 sz) = Q
  unfold r_Re_divides at h
  refine lv_iload_n hx hb d_Re_divides_0 rfl (lv_at hl 0 rfl) ?_
  refine lv_iconst (v := 3) hx hb d_Re_divides_1 (by decide) ?_
  refine lv_icmp_eq (tgt := 22) hx hb d_Re_divides_2 (by decide) (fun c1 => ?_) (fun c1 => ?_)
  · rw [if_pos c1] at h
    refine lv_iconst (v := 1) hx hb d_Re_divides_22 (by decide) ?_
    refine lv_goto (tgt := 27) hx hb d_Re_divides_23 (by decide) ?_
    cases h
    subst hQ
    exact k_zret hx hb hr hlk (Or.inr rfl) hP hK hD hS d_Re_divides_27
  · rw [if_neg c1] at h
    refine lv_iload_n hx hb d_Re_divides_5 rfl (lv_at hl 0 rfl) ?_
    refine lv_iconst (v := 4) hx hb d_Re_divides_6 (by decide) ?_
    refine lv_icmp_eq (tgt := 22) hx hb d_Re_divides_7 (by decide) (fun c2 => ?_) (fun c2 => ?_)
    · rw [if_pos c2] at h
      refine lv_iconst (v := 1) hx hb d_Re_divides_22 (by decide) ?_
      refine lv_goto (tgt := 27) hx hb d_Re_divides_23 (by decide) ?_
      cases h
      subst hQ
      exact k_zret hx hb hr hlk (Or.inr rfl) hP hK hD hS d_Re_divides_27
    · rw [if_neg c2] at h
      refine lv_iload_n hx hb d_Re_divides_10 rfl (lv_at hl 0 rfl) ?_
      refine lv_bipush (v := 8) hx hb d_Re_divides_11 (by decide) ?_
      refine lv_icmp_eq (tgt := 22) hx hb d_Re_divides_13 (by decide) (fun c3 => ?_) (fun c3 => ?_)
      · rw [if_pos c3] at h
        refine lv_iconst (v := 1) hx hb d_Re_divides_22 (by decide) ?_
        refine lv_goto (tgt := 27) hx hb d_Re_divides_23 (by decide) ?_
        cases h
        subst hQ
        exact k_zret hx hb hr hlk (Or.inr rfl) hP hK hD hS d_Re_divides_27
      · rw [if_neg c3] at h
        refine lv_iload_n hx hb d_Re_divides_16 rfl (lv_at hl 0 rfl) ?_
        refine lv_bipush (v := 9) hx hb d_Re_divides_17 (by decide) ?_
        refine lv_icmp_ne (tgt := 26) hx hb d_Re_divides_19 (by decide) (fun c4 => ?_) (fun c4 => ?_)
        · rw [if_neg c4] at h
          refine lv_iconst (v := 0) hx hb d_Re_divides_26 (by decide) ?_
          cases h
          subst hQ
          exact k_zret hx hb hr hlk (Or.inl rfl) hP hK hD hS d_Re_divides_27
        · rw [if_pos c4] at h
          refine lv_iconst (v := 1) hx hb d_Re_divides_22 (by decide) ?_
          refine lv_goto (tgt := 27) hx hb d_Re_divides_23 (by decide) ?_
          cases h
          subst hQ
          exact k_zret hx hb hr hlk (Or.inr rfl) hP hK hD hS d_Re_divides_27
theorem d_Re_ofArithmetic_0 : decode b_Re_ofArithmetic 0 = .ok (.iload_n 0, 1) := by decide +kernel
theorem d_Re_ofArithmetic_1 : decode b_Re_ofArithmetic 1 = .ok (.tableswitch 55 0 3 #[31, 35, 39, 43], 31) := by decide +kernel
theorem d_Re_ofArithmetic_32 : decode b_Re_ofArithmetic 32 = .ok (.iload_n 1, 1) := by decide +kernel
theorem d_Re_ofArithmetic_33 : decode b_Re_ofArithmetic 33 = .ok (.iload_n 2, 1) := by decide +kernel
theorem d_Re_ofArithmetic_34 : decode b_Re_ofArithmetic 34 = .ok (.iadd, 1) := by decide +kernel
theorem d_Re_ofArithmetic_35 : decode b_Re_ofArithmetic 35 = .ok (.ireturn, 1) := by decide +kernel
theorem d_Re_ofArithmetic_36 : decode b_Re_ofArithmetic 36 = .ok (.iload_n 1, 1) := by decide +kernel
theorem d_Re_ofArithmetic_37 : decode b_Re_ofArithmetic 37 = .ok (.iload_n 2, 1) := by decide +kernel
theorem d_Re_ofArithmetic_38 : decode b_Re_ofArithmetic 38 = .ok (.isub, 1) := by decide +kernel
theorem d_Re_ofArithmetic_39 : decode b_Re_ofArithmetic 39 = .ok (.ireturn, 1) := by decide +kernel
theorem d_Re_ofArithmetic_40 : decode b_Re_ofArithmetic 40 = .ok (.iload_n 1, 1) := by decide +kernel
theorem d_Re_ofArithmetic_41 : decode b_Re_ofArithmetic 41 = .ok (.iload_n 2, 1) := by decide +kernel
theorem d_Re_ofArithmetic_42 : decode b_Re_ofArithmetic 42 = .ok (.imul, 1) := by decide +kernel
theorem d_Re_ofArithmetic_43 : decode b_Re_ofArithmetic 43 = .ok (.ireturn, 1) := by decide +kernel
theorem d_Re_ofArithmetic_44 : decode b_Re_ofArithmetic 44 = .ok (.iload_n 2, 1) := by decide +kernel
theorem d_Re_ofArithmetic_45 : decode b_Re_ofArithmetic 45 = .ok (.ifCond .ne 7, 3) := by decide +kernel
theorem d_Re_ofArithmetic_48 : decode b_Re_ofArithmetic 48 = .ok (.iconst 0, 1) := by decide +kernel
theorem d_Re_ofArithmetic_49 : decode b_Re_ofArithmetic 49 = .ok (.goto 6, 3) := by decide +kernel
theorem d_Re_ofArithmetic_52 : decode b_Re_ofArithmetic 52 = .ok (.iload_n 1, 1) := by decide +kernel
theorem d_Re_ofArithmetic_53 : decode b_Re_ofArithmetic 53 = .ok (.iload_n 2, 1) := by decide +kernel
theorem d_Re_ofArithmetic_54 : decode b_Re_ofArithmetic 54 = .ok (.idiv, 1) := by decide +kernel
theorem d_Re_ofArithmetic_55 : decode b_Re_ofArithmetic 55 = .ok (.ireturn, 1) := by decide +kernel
theorem d_Re_ofArithmetic_56 : decode b_Re_ofArithmetic 56 = .ok (.iload_n 2, 1) := by decide +kernel
theorem d_Re_ofArithmetic_57 : decode b_Re_ofArithmetic 57 = .ok (.ifCond .ne 7, 3) := by decide +kernel
theorem d_Re_ofArithmetic_60 : decode b_Re_ofArithmetic 60 = .ok (.iconst 0, 1) := by decide +kernel
theorem d_Re_ofArithmetic_61 : decode b_Re_ofArithmetic 61 = .ok (.goto 6, 3) := by decide +kernel
theorem d_Re_ofArithmetic_64 : decode b_Re_ofArithmetic 64 = .ok (.iload_n 1, 1) := by decide +kernel
theorem d_Re_ofArithmetic_65 : decode b_Re_ofArithmetic 65 = .ok (.iload_n 2, 1) := by decide +kernel
theorem d_Re_ofArithmetic_66 : decode b_Re_ofArithmetic 66 = .ok (.irem, 1) := by decide +kernel
theorem d_Re_ofArithmetic_67 : decode b_Re_ofArithmetic 67 = .ok (.ireturn, 1) := by decide +kernel
def r_Re_ofArithmetic (n : Nat)  (a0 : Int32) (a1 : Int32) (a2 : Int32) : Option (Int32) := if a0 = (0 : Int32) then some ((a1 + a2)) else if a0 = (1 : Int32) then some ((a1 - a2)) else if a0 = (2 : Int32) then some ((a1 * a2)) else if a0 = (3 : Int32) then if a2 = 0 then some ((0 : Int32)) else gz a2 (some ((a1 / a2))) else if a2 = 0 then some ((0 : Int32)) else gz a2 (some ((a1 - a1 / a2 * a2)))
def rm_Re_ofArithmetic : Jvm.Room := { frames := 0, cells := 0, slots := 0, locals := 0 }
set_option maxHeartbeats 4000000 in
set_option maxRecDepth 100000 in
theorem c_Re_ofArithmetic {l : Launch} {D : va_G} {cl : List vw_C} {tys : List (ClassId × FieldType)} {ws0 : va_W} {sz n : Nat} {a0 : Int32} {a1 : Int32} {a2 : Int32} {r9 : Int32} (h : r_Re_ofArithmetic n  a0 a1 a2 = some r9) : Met l y_Re_ofArithmetic (Cond.code y_Re_ofArithmetic b_Re_ofArithmetic 3 (some .int) :: TB) rm_Re_ofArithmetic (PreW D cl tys ws0 [.int a0, .int a1, .int a2] sz) (PstI D cl tys ws0 ws0 sz r9) 0 0 (va_A ws0 sz) := by
  refine k_met (by decide) (Nat.le_of_ble_eq_true rfl) ?_
  intro p e s m below meth c ls hx hb hr hml hts hown hlk hnm hsz hP hK hD hA hz hl
  have hS : va_S (va_A ws0 sz) s.heap s.heap [] := va_S.rf
  have hl : lv_has ls 3 [(0, .int a0), (1, .int a1), (2, .int a2)] := hl
  generalize hQ : MQ below (PstI D cl tys ws0 ws0 sz r9) [.int a0, .int a1, .int a2].toArray s 0 0 (va_A ws0 sz) = Q
  unfold r_Re_ofArithmetic at h
  refine lv_iload_n hx hb d_Re_ofArithmetic_0 rfl (lv_at hl 0 rfl) ?_
  by_cases c1 : a0 = (0 : Int32)
  · rw [if_pos c1] at h
    refine k_sw c1 ?_
    refine lv_tableIn (tgt := 32) hx hb d_Re_ofArithmetic_1 (by decide) (by decide) rfl (by decide) ?_
    refine lv_iload_n hx hb d_Re_ofArithmetic_32 rfl (lv_at hl 1 rfl) ?_
    refine lv_iload_n hx hb d_Re_ofArithmetic_33 rfl (lv_at hl 2 rfl) ?_
    refine lv_iadd hx hb d_Re_ofArithmetic_34 ?_
    cases h
    subst hQ
    exact k_iret hx hb hr hlk hP hK hD hS d_Re_ofArithmetic_35
  · rw [if_neg c1] at h
    by_cases c2 : a0 = (1 : Int32)
    · rw [if_pos c2] at h
      refine k_sw c2 ?_
      refine lv_tableIn (tgt := 36) hx hb d_Re_ofArithmetic_1 (by decide) (by decide) rfl (by decide) ?_
      refine lv_iload_n hx hb d_Re_ofArithmetic_36 rfl (lv_at hl 1 rfl) ?_
      refine lv_iload_n hx hb d_Re_ofArithmetic_37 rfl (lv_at hl 2 rfl) ?_
      refine lv_isub hx hb d_Re_ofArithmetic_38 ?_
      cases h
      subst hQ
      exact k_iret hx hb hr hlk hP hK hD hS d_Re_ofArithmetic_39
    · rw [if_neg c2] at h
      by_cases c3 : a0 = (2 : Int32)
      · rw [if_pos c3] at h
        refine k_sw c3 ?_
        refine lv_tableIn (tgt := 40) hx hb d_Re_ofArithmetic_1 (by decide) (by decide) rfl (by decide) ?_
        refine lv_iload_n hx hb d_Re_ofArithmetic_40 rfl (lv_at hl 1 rfl) ?_
        refine lv_iload_n hx hb d_Re_ofArithmetic_41 rfl (lv_at hl 2 rfl) ?_
        refine lv_imul hx hb d_Re_ofArithmetic_42 ?_
        cases h
        subst hQ
        exact k_iret hx hb hr hlk hP hK hD hS d_Re_ofArithmetic_43
      · rw [if_neg c3] at h
        by_cases c4 : a0 = (3 : Int32)
        · rw [if_pos c4] at h
          refine k_sw c4 ?_
          refine lv_tableIn (tgt := 44) hx hb d_Re_ofArithmetic_1 (by decide) (by decide) rfl (by decide) ?_
          refine lv_iload_n hx hb d_Re_ofArithmetic_44 rfl (lv_at hl 2 rfl) ?_
          refine lv_if_ne (tgt := 52) hx hb d_Re_ofArithmetic_45 (by decide) (fun c5 => ?_) (fun c5 => ?_)
          · rw [if_neg c5] at h
            refine lv_iload_n hx hb d_Re_ofArithmetic_52 rfl (lv_at hl 1 rfl) ?_
            refine lv_iload_n hx hb d_Re_ofArithmetic_53 rfl (lv_at hl 2 rfl) ?_
            obtain ⟨hz6, h⟩ := gz_some h
            refine lv_idiv hx hb d_Re_ofArithmetic_54 hz6 ?_
            cases h
            subst hQ
            exact k_iret hx hb hr hlk hP hK hD hS d_Re_ofArithmetic_55
          · rw [if_pos c5] at h
            refine lv_iconst (v := 0) hx hb d_Re_ofArithmetic_48 (by decide) ?_
            refine lv_goto (tgt := 55) hx hb d_Re_ofArithmetic_49 (by decide) ?_
            cases h
            subst hQ
            exact k_iret hx hb hr hlk hP hK hD hS d_Re_ofArithmetic_55
        · rw [if_neg c4] at h
          refine lv_tableOut (tgt := 56) hx hb d_Re_ofArithmetic_1 (by have ec1 := lv_neT c1 (a := 0) (by decide); have ec2 := lv_neT c2 (a := 1) (by decide); have ec3 := lv_neT c3 (a := 2) (by decide); have ec4 := lv_neT c4 (a := 3) (by decide); omega) (by decide) ?_
          refine lv_iload_n hx hb d_Re_ofArithmetic_56 rfl (lv_at hl 2 rfl) ?_
          refine lv_if_ne (tgt := 64) hx hb d_Re_ofArithmetic_57 (by decide) (fun c7 => ?_) (fun c7 => ?_)
          · rw [if_neg c7] at h
            refine lv_iload_n hx hb d_Re_ofArithmetic_64 rfl (lv_at hl 1 rfl) ?_
            refine lv_iload_n hx hb d_Re_ofArithmetic_65 rfl (lv_at hl 2 rfl) ?_
            obtain ⟨hz8, h⟩ := gz_some h
            refine lv_irem hx hb d_Re_ofArithmetic_66 hz8 ?_
            cases h
            subst hQ
            exact k_iret hx hb hr hlk hP hK hD hS d_Re_ofArithmetic_67
          · rw [if_pos c7] at h
            refine lv_iconst (v := 0) hx hb d_Re_ofArithmetic_60 (by decide) ?_
            refine lv_goto (tgt := 67) hx hb d_Re_ofArithmetic_61 (by decide) ?_
            cases h
            subst hQ
            exact k_iret hx hb hr hlk hP hK hD hS d_Re_ofArithmetic_67
theorem d_Re_ofBitsAndOrder_0 : decode b_Re_ofBitsAndOrder 0 = .ok (.iload_n 0, 1) := by decide +kernel
theorem d_Re_ofBitsAndOrder_1 : decode b_Re_ofBitsAndOrder 1 = .ok (.tableswitch 129 10 17 #[47, 51, 55, 59, 73, 87, 101, 115], 47) := by decide +kernel
theorem d_Re_ofBitsAndOrder_48 : decode b_Re_ofBitsAndOrder 48 = .ok (.iload_n 1, 1) := by decide +kernel
theorem d_Re_ofBitsAndOrder_49 : decode b_Re_ofBitsAndOrder 49 = .ok (.iload_n 2, 1) := by decide +kernel
theorem d_Re_ofBitsAndOrder_50 : decode b_Re_ofBitsAndOrder 50 = .ok (.iand, 1) := by decide +kernel
theorem d_Re_ofBitsAndOrder_51 : decode b_Re_ofBitsAndOrder 51 = .ok (.ireturn, 1) := by decide +kernel
theorem d_Re_ofBitsAndOrder_52 : decode b_Re_ofBitsAndOrder 52 = .ok (.iload_n 1, 1) := by decide +kernel
theorem d_Re_ofBitsAndOrder_53 : decode b_Re_ofBitsAndOrder 53 = .ok (.iload_n 2, 1) := by decide +kernel
theorem d_Re_ofBitsAndOrder_54 : decode b_Re_ofBitsAndOrder 54 = .ok (.ior, 1) := by decide +kernel
theorem d_Re_ofBitsAndOrder_55 : decode b_Re_ofBitsAndOrder 55 = .ok (.ireturn, 1) := by decide +kernel
theorem d_Re_ofBitsAndOrder_56 : decode b_Re_ofBitsAndOrder 56 = .ok (.iload_n 1, 1) := by decide +kernel
theorem d_Re_ofBitsAndOrder_57 : decode b_Re_ofBitsAndOrder 57 = .ok (.iload_n 2, 1) := by decide +kernel
theorem d_Re_ofBitsAndOrder_58 : decode b_Re_ofBitsAndOrder 58 = .ok (.ixor, 1) := by decide +kernel
theorem d_Re_ofBitsAndOrder_59 : decode b_Re_ofBitsAndOrder 59 = .ok (.ireturn, 1) := by decide +kernel
theorem d_Re_ofBitsAndOrder_60 : decode b_Re_ofBitsAndOrder 60 = .ok (.iload_n 1, 1) := by decide +kernel
theorem d_Re_ofBitsAndOrder_61 : decode b_Re_ofBitsAndOrder 61 = .ok (.iload_n 2, 1) := by decide +kernel
theorem d_Re_ofBitsAndOrder_62 : decode b_Re_ofBitsAndOrder 62 = .ok (.if_icmp .ne 7, 3) := by decide +kernel
theorem d_Re_ofBitsAndOrder_65 : decode b_Re_ofBitsAndOrder 65 = .ok (.iconst 1, 1) := by decide +kernel
theorem d_Re_ofBitsAndOrder_66 : decode b_Re_ofBitsAndOrder 66 = .ok (.goto 4, 3) := by decide +kernel
theorem d_Re_ofBitsAndOrder_69 : decode b_Re_ofBitsAndOrder 69 = .ok (.iconst 0, 1) := by decide +kernel
theorem d_Re_ofBitsAndOrder_70 : decode b_Re_ofBitsAndOrder 70 = .ok (.invokestatic 23, 3) := by decide +kernel
theorem d_Re_ofBitsAndOrder_73 : decode b_Re_ofBitsAndOrder 73 = .ok (.ireturn, 1) := by decide +kernel
theorem d_Re_ofBitsAndOrder_74 : decode b_Re_ofBitsAndOrder 74 = .ok (.iload_n 1, 1) := by decide +kernel
theorem d_Re_ofBitsAndOrder_75 : decode b_Re_ofBitsAndOrder 75 = .ok (.iload_n 2, 1) := by decide +kernel
theorem d_Re_ofBitsAndOrder_76 : decode b_Re_ofBitsAndOrder 76 = .ok (.if_icmp .eq 7, 3) := by decide +kernel
theorem d_Re_ofBitsAndOrder_79 : decode b_Re_ofBitsAndOrder 79 = .ok (.iconst 1, 1) := by decide +kernel
theorem d_Re_ofBitsAndOrder_80 : decode b_Re_ofBitsAndOrder 80 = .ok (.goto 4, 3) := by decide +kernel
theorem d_Re_ofBitsAndOrder_83 : decode b_Re_ofBitsAndOrder 83 = .ok (.iconst 0, 1) := by decide +kernel
theorem d_Re_ofBitsAndOrder_84 : decode b_Re_ofBitsAndOrder 84 = .ok (.invokestatic 23, 3) := by decide +kernel
theorem d_Re_ofBitsAndOrder_87 : decode b_Re_ofBitsAndOrder 87 = .ok (.ireturn, 1) := by decide +kernel
theorem d_Re_ofBitsAndOrder_88 : decode b_Re_ofBitsAndOrder 88 = .ok (.iload_n 1, 1) := by decide +kernel
theorem d_Re_ofBitsAndOrder_89 : decode b_Re_ofBitsAndOrder 89 = .ok (.iload_n 2, 1) := by decide +kernel
theorem d_Re_ofBitsAndOrder_90 : decode b_Re_ofBitsAndOrder 90 = .ok (.if_icmp .ge 7, 3) := by decide +kernel
theorem d_Re_ofBitsAndOrder_93 : decode b_Re_ofBitsAndOrder 93 = .ok (.iconst 1, 1) := by decide +kernel
theorem d_Re_ofBitsAndOrder_94 : decode b_Re_ofBitsAndOrder 94 = .ok (.goto 4, 3) := by decide +kernel
theorem d_Re_ofBitsAndOrder_97 : decode b_Re_ofBitsAndOrder 97 = .ok (.iconst 0, 1) := by decide +kernel
theorem d_Re_ofBitsAndOrder_98 : decode b_Re_ofBitsAndOrder 98 = .ok (.invokestatic 23, 3) := by decide +kernel
theorem d_Re_ofBitsAndOrder_101 : decode b_Re_ofBitsAndOrder 101 = .ok (.ireturn, 1) := by decide +kernel
theorem d_Re_ofBitsAndOrder_102 : decode b_Re_ofBitsAndOrder 102 = .ok (.iload_n 1, 1) := by decide +kernel
theorem d_Re_ofBitsAndOrder_103 : decode b_Re_ofBitsAndOrder 103 = .ok (.iload_n 2, 1) := by decide +kernel
theorem d_Re_ofBitsAndOrder_104 : decode b_Re_ofBitsAndOrder 104 = .ok (.if_icmp .le 7, 3) := by decide +kernel
theorem d_Re_ofBitsAndOrder_107 : decode b_Re_ofBitsAndOrder 107 = .ok (.iconst 1, 1) := by decide +kernel
theorem d_Re_ofBitsAndOrder_108 : decode b_Re_ofBitsAndOrder 108 = .ok (.goto 4, 3) := by decide +kernel
theorem d_Re_ofBitsAndOrder_111 : decode b_Re_ofBitsAndOrder 111 = .ok (.iconst 0, 1) := by decide +kernel
theorem d_Re_ofBitsAndOrder_112 : decode b_Re_ofBitsAndOrder 112 = .ok (.invokestatic 23, 3) := by decide +kernel
theorem d_Re_ofBitsAndOrder_115 : decode b_Re_ofBitsAndOrder 115 = .ok (.ireturn, 1) := by decide +kernel
theorem d_Re_ofBitsAndOrder_116 : decode b_Re_ofBitsAndOrder 116 = .ok (.iload_n 1, 1) := by decide +kernel
theorem d_Re_ofBitsAndOrder_117 : decode b_Re_ofBitsAndOrder 117 = .ok (.iload_n 2, 1) := by decide +kernel
theorem d_Re_ofBitsAndOrder_118 : decode b_Re_ofBitsAndOrder 118 = .ok (.if_icmp .gt 7, 3) := by decide +kernel
theorem d_Re_ofBitsAndOrder_121 : decode b_Re_ofBitsAndOrder 121 = .ok (.iconst 1, 1) := by decide +kernel
theorem d_Re_ofBitsAndOrder_122 : decode b_Re_ofBitsAndOrder 122 = .ok (.goto 4, 3) := by decide +kernel
theorem d_Re_ofBitsAndOrder_125 : decode b_Re_ofBitsAndOrder 125 = .ok (.iconst 0, 1) := by decide +kernel
theorem d_Re_ofBitsAndOrder_126 : decode b_Re_ofBitsAndOrder 126 = .ok (.invokestatic 23, 3) := by decide +kernel
theorem d_Re_ofBitsAndOrder_129 : decode b_Re_ofBitsAndOrder 129 = .ok (.ireturn, 1) := by decide +kernel
theorem d_Re_ofBitsAndOrder_130 : decode b_Re_ofBitsAndOrder 130 = .ok (.iload_n 1, 1) := by decide +kernel
theorem d_Re_ofBitsAndOrder_131 : decode b_Re_ofBitsAndOrder 131 = .ok (.iload_n 2, 1) := by decide +kernel
theorem d_Re_ofBitsAndOrder_132 : decode b_Re_ofBitsAndOrder 132 = .ok (.if_icmp .lt 7, 3) := by decide +kernel
theorem d_Re_ofBitsAndOrder_135 : decode b_Re_ofBitsAndOrder 135 = .ok (.iconst 1, 1) := by decide +kernel
theorem d_Re_ofBitsAndOrder_136 : decode b_Re_ofBitsAndOrder 136 = .ok (.goto 4, 3) := by decide +kernel
theorem d_Re_ofBitsAndOrder_139 : decode b_Re_ofBitsAndOrder 139 = .ok (.iconst 0, 1) := by decide +kernel
theorem d_Re_ofBitsAndOrder_140 : decode b_Re_ofBitsAndOrder 140 = .ok (.invokestatic 23, 3) := by decide +kernel
theorem d_Re_ofBitsAndOrder_143 : decode b_Re_ofBitsAndOrder 143 = .ok (.ireturn, 1) := by decide +kernel
def r_Re_ofBitsAndOrder (n : Nat)  (a0 : Int32) (a1 : Int32) (a2 : Int32) : Option (Int32) := if a0 = (10 : Int32) then some ((a1 &&& a2)) else if a0 = (11 : Int32) then some ((a1 ||| a2)) else if a0 = (12 : Int32) then some ((a1 ^^^ a2)) else if a0 = (13 : Int32) then if a1 = a2 then (r_Re_flag n (1 : Int32)).bind (fun q7 => some (q7)) else (r_Re_flag n (0 : Int32)).bind (fun q6 => some (q6)) else if a0 = (14 : Int32) then if a1 = a2 then (r_Re_flag n (0 : Int32)).bind (fun q10 => some (q10)) else (r_Re_flag n (1 : Int32)).bind (fun q11 => some (q11)) else if a0 = (15 : Int32) then if a2 ≤ a1 then (r_Re_flag n (0 : Int32)).bind (fun q14 => some (q14)) else (r_Re_flag n (1 : Int32)).bind (fun q15 => some (q15)) else if a0 = (16 : Int32) then if a1 ≤ a2 then (r_Re_flag n (0 : Int32)).bind (fun q18 => some (q18)) else (r_Re_flag n (1 : Int32)).bind (fun q19 => some (q19)) else if a0 = (17 : Int32) then if a2 < a1 then (r_Re_flag n (0 : Int32)).bind (fun q22 => some (q22)) else (r_Re_flag n (1 : Int32)).bind (fun q23 => some (q23)) else if a1 < a2 then (r_Re_flag n (0 : Int32)).bind (fun q25 => some (q25)) else (r_Re_flag n (1 : Int32)).bind (fun q26 => some (q26))
def rm_Re_ofBitsAndOrder : Jvm.Room := { frames := 1, cells := 0, slots := 0, locals := 20 }
set_option maxHeartbeats 4000000 in
set_option maxRecDepth 100000 in
theorem c_Re_ofBitsAndOrder {l : Launch} {D : va_G} {cl : List vw_C} {tys : List (ClassId × FieldType)} {ws0 : va_W} {sz n : Nat} {a0 : Int32} {a1 : Int32} {a2 : Int32} {r9 : Int32} (h : r_Re_ofBitsAndOrder n  a0 a1 a2 = some r9) : Met l y_Re_ofBitsAndOrder (Cond.code y_Re_ofBitsAndOrder b_Re_ofBitsAndOrder 3 (some .int) :: TB) rm_Re_ofBitsAndOrder (PreW D cl tys ws0 [.int a0, .int a1, .int a2] sz) (PstI D cl tys ws0 ws0 sz r9) 0 0 (va_A ws0 sz) := by
  refine k_met (by decide) (Nat.le_of_ble_eq_true rfl) ?_
  intro p e s m below meth c ls hx hb hr hml hts hown hlk hnm hsz hP hK hD hA hz hl
  have hS : va_S (va_A ws0 sz) s.heap s.heap [] := va_S.rf
  have hl : lv_has ls 3 [(0, .int a0), (1, .int a1), (2, .int a2)] := hl
  generalize hQ : MQ below (PstI D cl tys ws0 ws0 sz r9) [.int a0, .int a1, .int a2].toArray s 0 0 (va_A ws0 sz) = Q
  unfold r_Re_ofBitsAndOrder at h
  refine lv_iload_n hx hb d_Re_ofBitsAndOrder_0 rfl (lv_at hl 0 rfl) ?_
  by_cases c1 : a0 = (10 : Int32)
  · rw [if_pos c1] at h
    refine k_sw c1 ?_
    refine lv_tableIn (tgt := 48) hx hb d_Re_ofBitsAndOrder_1 (by decide) (by decide) rfl (by decide) ?_
    refine lv_iload_n hx hb d_Re_ofBitsAndOrder_48 rfl (lv_at hl 1 rfl) ?_
    refine lv_iload_n hx hb d_Re_ofBitsAndOrder_49 rfl (lv_at hl 2 rfl) ?_
    refine lv_iand hx hb d_Re_ofBitsAndOrder_50 ?_
    cases h
    subst hQ
    exact k_iret hx hb hr hlk hP hK hD hS d_Re_ofBitsAndOrder_51
  · rw [if_neg c1] at h
    by_cases c2 : a0 = (11 : Int32)
    · rw [if_pos c2] at h
      refine k_sw c2 ?_
      refine lv_tableIn (tgt := 52) hx hb d_Re_ofBitsAndOrder_1 (by decide) (by decide) rfl (by decide) ?_
      refine lv_iload_n hx hb d_Re_ofBitsAndOrder_52 rfl (lv_at hl 1 rfl) ?_
      refine lv_iload_n hx hb d_Re_ofBitsAndOrder_53 rfl (lv_at hl 2 rfl) ?_
      refine lv_ior hx hb d_Re_ofBitsAndOrder_54 ?_
      cases h
      subst hQ
      exact k_iret hx hb hr hlk hP hK hD hS d_Re_ofBitsAndOrder_55
    · rw [if_neg c2] at h
      by_cases c3 : a0 = (12 : Int32)
      · rw [if_pos c3] at h
        refine k_sw c3 ?_
        refine lv_tableIn (tgt := 56) hx hb d_Re_ofBitsAndOrder_1 (by decide) (by decide) rfl (by decide) ?_
        refine lv_iload_n hx hb d_Re_ofBitsAndOrder_56 rfl (lv_at hl 1 rfl) ?_
        refine lv_iload_n hx hb d_Re_ofBitsAndOrder_57 rfl (lv_at hl 2 rfl) ?_
        refine lv_ixor hx hb d_Re_ofBitsAndOrder_58 ?_
        cases h
        subst hQ
        exact k_iret hx hb hr hlk hP hK hD hS d_Re_ofBitsAndOrder_59
      · rw [if_neg c3] at h
        by_cases c4 : a0 = (13 : Int32)
        · rw [if_pos c4] at h
          refine k_sw c4 ?_
          refine lv_tableIn (tgt := 60) hx hb d_Re_ofBitsAndOrder_1 (by decide) (by decide) rfl (by decide) ?_
          refine lv_iload_n hx hb d_Re_ofBitsAndOrder_60 rfl (lv_at hl 1 rfl) ?_
          refine lv_iload_n hx hb d_Re_ofBitsAndOrder_61 rfl (lv_at hl 2 rfl) ?_
          refine lv_icmp_ne (tgt := 69) hx hb d_Re_ofBitsAndOrder_62 (by decide) (fun c5 => ?_) (fun c5 => ?_)
          · rw [if_neg c5] at h
            refine lv_iconst (v := 0) hx hb d_Re_ofBitsAndOrder_69 (by decide) ?_
            obtain ⟨q6, hq6, h⟩ := Option.bind_eq_some_iff.mp h
            refine k_I (k_runS ⟨hx, hb, hml, hown, hts⟩ (c_Re_flag hq6) ok_Re_flag is_Re_flag lk_580 rfl rfl ⟨by decide, by decide⟩ hP hK hD hS hA hz rfl hl.1 rfl (Nat.le_of_ble_eq_true rfl) d_Re_ofBitsAndOrder_70 ⟨Nat.zero_le _, Nat.zero_le _⟩) hD hS hA (fun H locs hP hD hS => ?_)
            cases h
            subst hQ
            exact k_iret hx hb hr hlk hP hK hD hS d_Re_ofBitsAndOrder_73
          · rw [if_pos c5] at h
            refine lv_iconst (v := 1) hx hb d_Re_ofBitsAndOrder_65 (by decide) ?_
            refine lv_goto (tgt := 70) hx hb d_Re_ofBitsAndOrder_66 (by decide) ?_
            obtain ⟨q7, hq7, h⟩ := Option.bind_eq_some_iff.mp h
            refine k_I (k_runS ⟨hx, hb, hml, hown, hts⟩ (c_Re_flag hq7) ok_Re_flag is_Re_flag lk_580 rfl rfl ⟨by decide, by decide⟩ hP hK hD hS hA hz rfl hl.1 rfl (Nat.le_of_ble_eq_true rfl) d_Re_ofBitsAndOrder_70 ⟨Nat.zero_le _, Nat.zero_le _⟩) hD hS hA (fun H locs hP hD hS => ?_)
            cases h
            subst hQ
            exact k_iret hx hb hr hlk hP hK hD hS d_Re_ofBitsAndOrder_73
        · rw [if_neg c4] at h
          by_cases c8 : a0 = (14 : Int32)
          · rw [if_pos c8] at h
            refine k_sw c8 ?_
            refine lv_tableIn (tgt := 74) hx hb d_Re_ofBitsAndOrder_1 (by decide) (by decide) rfl (by decide) ?_
            refine lv_iload_n hx hb d_Re_ofBitsAndOrder_74 rfl (lv_at hl 1 rfl) ?_
            refine lv_iload_n hx hb d_Re_ofBitsAndOrder_75 rfl (lv_at hl 2 rfl) ?_
            refine lv_icmp_eq (tgt := 83) hx hb d_Re_ofBitsAndOrder_76 (by decide) (fun c9 => ?_) (fun c9 => ?_)
            · rw [if_pos c9] at h
              refine lv_iconst (v := 0) hx hb d_Re_ofBitsAndOrder_83 (by decide) ?_
              obtain ⟨q10, hq10, h⟩ := Option.bind_eq_some_iff.mp h
              refine k_I (k_runS ⟨hx, hb, hml, hown, hts⟩ (c_Re_flag hq10) ok_Re_flag is_Re_flag lk_580 rfl rfl ⟨by decide, by decide⟩ hP hK hD hS hA hz rfl hl.1 rfl (Nat.le_of_ble_eq_true rfl) d_Re_ofBitsAndOrder_84 ⟨Nat.zero_le _, Nat.zero_le _⟩) hD hS hA (fun H locs hP hD hS => ?_)
              cases h
              subst hQ
              exact k_iret hx hb hr hlk hP hK hD hS d_Re_ofBitsAndOrder_87
            · rw [if_neg c9] at h
              refine lv_iconst (v := 1) hx hb d_Re_ofBitsAndOrder_79 (by decide) ?_
              refine lv_goto (tgt := 84) hx hb d_Re_ofBitsAndOrder_80 (by decide) ?_
              obtain ⟨q11, hq11, h⟩ := Option.bind_eq_some_iff.mp h
              refine k_I (k_runS ⟨hx, hb, hml, hown, hts⟩ (c_Re_flag hq11) ok_Re_flag is_Re_flag lk_580 rfl rfl ⟨by decide, by decide⟩ hP hK hD hS hA hz rfl hl.1 rfl (Nat.le_of_ble_eq_true rfl) d_Re_ofBitsAndOrder_84 ⟨Nat.zero_le _, Nat.zero_le _⟩) hD hS hA (fun H locs hP hD hS => ?_)
              cases h
              subst hQ
              exact k_iret hx hb hr hlk hP hK hD hS d_Re_ofBitsAndOrder_87
          · rw [if_neg c8] at h
            by_cases c12 : a0 = (15 : Int32)
            · rw [if_pos c12] at h
              refine k_sw c12 ?_
              refine lv_tableIn (tgt := 88) hx hb d_Re_ofBitsAndOrder_1 (by decide) (by decide) rfl (by decide) ?_
              refine lv_iload_n hx hb d_Re_ofBitsAndOrder_88 rfl (lv_at hl 1 rfl) ?_
              refine lv_iload_n hx hb d_Re_ofBitsAndOrder_89 rfl (lv_at hl 2 rfl) ?_
              refine lv_icmp_ge (tgt := 97) hx hb d_Re_ofBitsAndOrder_90 (by decide) (fun c13 => ?_) (fun c13 => ?_)
              · rw [if_pos c13] at h
                refine lv_iconst (v := 0) hx hb d_Re_ofBitsAndOrder_97 (by decide) ?_
                obtain ⟨q14, hq14, h⟩ := Option.bind_eq_some_iff.mp h
                refine k_I (k_runS ⟨hx, hb, hml, hown, hts⟩ (c_Re_flag hq14) ok_Re_flag is_Re_flag lk_580 rfl rfl ⟨by decide, by decide⟩ hP hK hD hS hA hz rfl hl.1 rfl (Nat.le_of_ble_eq_true rfl) d_Re_ofBitsAndOrder_98 ⟨Nat.zero_le _, Nat.zero_le _⟩) hD hS hA (fun H locs hP hD hS => ?_)
                cases h
                subst hQ
                exact k_iret hx hb hr hlk hP hK hD hS d_Re_ofBitsAndOrder_101
              · rw [if_neg c13] at h
                refine lv_iconst (v := 1) hx hb d_Re_ofBitsAndOrder_93 (by decide) ?_
                refine lv_goto (tgt := 98) hx hb d_Re_ofBitsAndOrder_94 (by decide) ?_
                obtain ⟨q15, hq15, h⟩ := Option.bind_eq_some_iff.mp h
                refine k_I (k_runS ⟨hx, hb, hml, hown, hts⟩ (c_Re_flag hq15) ok_Re_flag is_Re_flag lk_580 rfl rfl ⟨by decide, by decide⟩ hP hK hD hS hA hz rfl hl.1 rfl (Nat.le_of_ble_eq_true rfl) d_Re_ofBitsAndOrder_98 ⟨Nat.zero_le _, Nat.zero_le _⟩) hD hS hA (fun H locs hP hD hS => ?_)
                cases h
                subst hQ
                exact k_iret hx hb hr hlk hP hK hD hS d_Re_ofBitsAndOrder_101
            · rw [if_neg c12] at h
              by_cases c16 : a0 = (16 : Int32)
              · rw [if_pos c16] at h
                refine k_sw c16 ?_
                refine lv_tableIn (tgt := 102) hx hb d_Re_ofBitsAndOrder_1 (by decide) (by decide) rfl (by decide) ?_
                refine lv_iload_n hx hb d_Re_ofBitsAndOrder_102 rfl (lv_at hl 1 rfl) ?_
                refine lv_iload_n hx hb d_Re_ofBitsAndOrder_103 rfl (lv_at hl 2 rfl) ?_
                refine lv_icmp_le (tgt := 111) hx hb d_Re_ofBitsAndOrder_104 (by decide) (fun c17 => ?_) (fun c17 => ?_)
                · rw [if_pos c17] at h
                  refine lv_iconst (v := 0) hx hb d_Re_ofBitsAndOrder_111 (by decide) ?_
                  obtain ⟨q18, hq18, h⟩ := Option.bind_eq_some_iff.mp h
                  refine k_I (k_runS ⟨hx, hb, hml, hown, hts⟩ (c_Re_flag hq18) ok_Re_flag is_Re_flag lk_580 rfl rfl ⟨by decide, by decide⟩ hP hK hD hS hA hz rfl hl.1 rfl (Nat.le_of_ble_eq_true rfl) d_Re_ofBitsAndOrder_112 ⟨Nat.zero_le _, Nat.zero_le _⟩) hD hS hA (fun H locs hP hD hS => ?_)
                  cases h
                  subst hQ
                  exact k_iret hx hb hr hlk hP hK hD hS d_Re_ofBitsAndOrder_115
                · rw [if_neg c17] at h
                  refine lv_iconst (v := 1) hx hb d_Re_ofBitsAndOrder_107 (by decide) ?_
                  refine lv_goto (tgt := 112) hx hb d_Re_ofBitsAndOrder_108 (by decide) ?_
                  obtain ⟨q19, hq19, h⟩ := Option.bind_eq_some_iff.mp h
                  refine k_I (k_runS ⟨hx, hb, hml, hown, hts⟩ (c_Re_flag hq19) ok_Re_flag is_Re_flag lk_580 rfl rfl ⟨by decide, by decide⟩ hP hK hD hS hA hz rfl hl.1 rfl (Nat.le_of_ble_eq_true rfl) d_Re_ofBitsAndOrder_112 ⟨Nat.zero_le _, Nat.zero_le _⟩) hD hS hA (fun H locs hP hD hS => ?_)
                  cases h
                  subst hQ
                  exact k_iret hx hb hr hlk hP hK hD hS d_Re_ofBitsAndOrder_115
              · rw [if_neg c16] at h
                by_cases c20 : a0 = (17 : Int32)
                · rw [if_pos c20] at h
                  refine k_sw c20 ?_
                  refine lv_tableIn (tgt := 116) hx hb d_Re_ofBitsAndOrder_1 (by decide) (by decide) rfl (by decide) ?_
                  refine lv_iload_n hx hb d_Re_ofBitsAndOrder_116 rfl (lv_at hl 1 rfl) ?_
                  refine lv_iload_n hx hb d_Re_ofBitsAndOrder_117 rfl (lv_at hl 2 rfl) ?_
                  refine lv_icmp_gt (tgt := 125) hx hb d_Re_ofBitsAndOrder_118 (by decide) (fun c21 => ?_) (fun c21 => ?_)
                  · rw [if_pos c21] at h
                    refine lv_iconst (v := 0) hx hb d_Re_ofBitsAndOrder_125 (by decide) ?_
                    obtain ⟨q22, hq22, h⟩ := Option.bind_eq_some_iff.mp h
                    refine k_I (k_runS ⟨hx, hb, hml, hown, hts⟩ (c_Re_flag hq22) ok_Re_flag is_Re_flag lk_580 rfl rfl ⟨by decide, by decide⟩ hP hK hD hS hA hz rfl hl.1 rfl (Nat.le_of_ble_eq_true rfl) d_Re_ofBitsAndOrder_126 ⟨Nat.zero_le _, Nat.zero_le _⟩) hD hS hA (fun H locs hP hD hS => ?_)
                    cases h
                    subst hQ
                    exact k_iret hx hb hr hlk hP hK hD hS d_Re_ofBitsAndOrder_129
                  · rw [if_neg c21] at h
                    refine lv_iconst (v := 1) hx hb d_Re_ofBitsAndOrder_121 (by decide) ?_
                    refine lv_goto (tgt := 126) hx hb d_Re_ofBitsAndOrder_122 (by decide) ?_
                    obtain ⟨q23, hq23, h⟩ := Option.bind_eq_some_iff.mp h
                    refine k_I (k_runS ⟨hx, hb, hml, hown, hts⟩ (c_Re_flag hq23) ok_Re_flag is_Re_flag lk_580 rfl rfl ⟨by decide, by decide⟩ hP hK hD hS hA hz rfl hl.1 rfl (Nat.le_of_ble_eq_true rfl) d_Re_ofBitsAndOrder_126 ⟨Nat.zero_le _, Nat.zero_le _⟩) hD hS hA (fun H locs hP hD hS => ?_)
                    cases h
                    subst hQ
                    exact k_iret hx hb hr hlk hP hK hD hS d_Re_ofBitsAndOrder_129
                · rw [if_neg c20] at h
                  refine lv_tableOut (tgt := 130) hx hb d_Re_ofBitsAndOrder_1 (by have ec1 := lv_neT c1 (a := 10) (by decide); have ec2 := lv_neT c2 (a := 11) (by decide); have ec3 := lv_neT c3 (a := 12) (by decide); have ec4 := lv_neT c4 (a := 13) (by decide); have ec8 := lv_neT c8 (a := 14) (by decide); have ec12 := lv_neT c12 (a := 15) (by decide); have ec16 := lv_neT c16 (a := 16) (by decide); have ec20 := lv_neT c20 (a := 17) (by decide); omega) (by decide) ?_
                  refine lv_iload_n hx hb d_Re_ofBitsAndOrder_130 rfl (lv_at hl 1 rfl) ?_
                  refine lv_iload_n hx hb d_Re_ofBitsAndOrder_131 rfl (lv_at hl 2 rfl) ?_
                  refine lv_icmp_lt (tgt := 139) hx hb d_Re_ofBitsAndOrder_132 (by decide) (fun c24 => ?_) (fun c24 => ?_)
                  · rw [if_pos c24] at h
                    refine lv_iconst (v := 0) hx hb d_Re_ofBitsAndOrder_139 (by decide) ?_
                    obtain ⟨q25, hq25, h⟩ := Option.bind_eq_some_iff.mp h
                    refine k_I (k_runS ⟨hx, hb, hml, hown, hts⟩ (c_Re_flag hq25) ok_Re_flag is_Re_flag lk_580 rfl rfl ⟨by decide, by decide⟩ hP hK hD hS hA hz rfl hl.1 rfl (Nat.le_of_ble_eq_true rfl) d_Re_ofBitsAndOrder_140 ⟨Nat.zero_le _, Nat.zero_le _⟩) hD hS hA (fun H locs hP hD hS => ?_)
                    cases h
                    subst hQ
                    exact k_iret hx hb hr hlk hP hK hD hS d_Re_ofBitsAndOrder_143
                  · rw [if_neg c24] at h
                    refine lv_iconst (v := 1) hx hb d_Re_ofBitsAndOrder_135 (by decide) ?_
                    refine lv_goto (tgt := 140) hx hb d_Re_ofBitsAndOrder_136 (by decide) ?_
                    obtain ⟨q26, hq26, h⟩ := Option.bind_eq_some_iff.mp h
                    refine k_I (k_runS ⟨hx, hb, hml, hown, hts⟩ (c_Re_flag hq26) ok_Re_flag is_Re_flag lk_580 rfl rfl ⟨by decide, by decide⟩ hP hK hD hS hA hz rfl hl.1 rfl (Nat.le_of_ble_eq_true rfl) d_Re_ofBitsAndOrder_140 ⟨Nat.zero_le _, Nat.zero_le _⟩) hD hS hA (fun H locs hP hD hS => ?_)
                    cases h
                    subst hQ
                    exact k_iret hx hb hr hlk hP hK hD hS d_Re_ofBitsAndOrder_143
theorem d_Re_ofShifts_0 : decode b_Re_ofShifts 0 = .ok (.iload_n 2, 1) := by decide +kernel
theorem d_Re_ofShifts_1 : decode b_Re_ofShifts 1 = .ok (.ifCond .lt 13, 3) := by decide +kernel
theorem d_Re_ofShifts_4 : decode b_Re_ofShifts 4 = .ok (.iload_n 2, 1) := by decide +kernel
theorem d_Re_ofShifts_5 : decode b_Re_ofShifts 5 = .ok (.bipush 16, 2) := by decide +kernel
theorem d_Re_ofShifts_7 : decode b_Re_ofShifts 7 = .ok (.if_icmp .ge 7, 3) := by decide +kernel
theorem d_Re_ofShifts_10 : decode b_Re_ofShifts 10 = .ok (.iconst 1, 1) := by decide +kernel
theorem d_Re_ofShifts_11 : decode b_Re_ofShifts 11 = .ok (.goto 4, 3) := by decide +kernel
theorem d_Re_ofShifts_14 : decode b_Re_ofShifts 14 = .ok (.iconst 0, 1) := by decide +kernel
theorem d_Re_ofShifts_15 : decode b_Re_ofShifts 15 = .ok (.istore_n 3, 1) := by decide +kernel
theorem d_Re_ofShifts_16 : decode b_Re_ofShifts 16 = .ok (.iload_n 2, 1) := by decide +kernel
theorem d_Re_ofShifts_17 : decode b_Re_ofShifts 17 = .ok (.ifCond .lt 13, 3) := by decide +kernel
theorem d_Re_ofShifts_20 : decode b_Re_ofShifts 20 = .ok (.iload_n 2, 1) := by decide +kernel
theorem d_Re_ofShifts_21 : decode b_Re_ofShifts 21 = .ok (.bipush 32, 2) := by decide +kernel
theorem d_Re_ofShifts_23 : decode b_Re_ofShifts 23 = .ok (.if_icmp .ge 7, 3) := by decide +kernel
theorem d_Re_ofShifts_26 : decode b_Re_ofShifts 26 = .ok (.iconst 1, 1) := by decide +kernel
theorem d_Re_ofShifts_27 : decode b_Re_ofShifts 27 = .ok (.goto 4, 3) := by decide +kernel
theorem d_Re_ofShifts_30 : decode b_Re_ofShifts 30 = .ok (.iconst 0, 1) := by decide +kernel
theorem d_Re_ofShifts_31 : decode b_Re_ofShifts 31 = .ok (.istore 4, 2) := by decide +kernel
theorem d_Re_ofShifts_33 : decode b_Re_ofShifts 33 = .ok (.iload_n 0, 1) := by decide +kernel
theorem d_Re_ofShifts_34 : decode b_Re_ofShifts 34 = .ok (.tableswitch 99 19 23 #[34, 49, 67, 80, 93], 34) := by decide +kernel
theorem d_Re_ofShifts_68 : decode b_Re_ofShifts 68 = .ok (.iload_n 3, 1) := by decide +kernel
theorem d_Re_ofShifts_69 : decode b_Re_ofShifts 69 = .ok (.ifCond .eq 12, 3) := by decide +kernel
theorem d_Re_ofShifts_72 : decode b_Re_ofShifts 72 = .ok (.iload_n 1, 1) := by decide +kernel
theorem d_Re_ofShifts_73 : decode b_Re_ofShifts 73 = .ok (.iload_n 2, 1) := by decide +kernel
theorem d_Re_ofShifts_74 : decode b_Re_ofShifts 74 = .ok (.ishl, 1) := by decide +kernel
theorem d_Re_ofShifts_75 : decode b_Re_ofShifts 75 = .ok (.invokestatic 13, 3) := by decide +kernel
theorem d_Re_ofShifts_78 : decode b_Re_ofShifts 78 = .ok (.goto 4, 3) := by decide +kernel
theorem d_Re_ofShifts_81 : decode b_Re_ofShifts 81 = .ok (.iconst 0, 1) := by decide +kernel
theorem d_Re_ofShifts_82 : decode b_Re_ofShifts 82 = .ok (.ireturn, 1) := by decide +kernel
theorem d_Re_ofShifts_83 : decode b_Re_ofShifts 83 = .ok (.iload_n 3, 1) := by decide +kernel
theorem d_Re_ofShifts_84 : decode b_Re_ofShifts 84 = .ok (.ifCond .eq 15, 3) := by decide +kernel
theorem d_Re_ofShifts_87 : decode b_Re_ofShifts 87 = .ok (.iload_n 1, 1) := by decide +kernel
theorem d_Re_ofShifts_88 : decode b_Re_ofShifts 88 = .ok (.ldc 27, 2) := by decide +kernel
theorem d_Re_ofShifts_90 : decode b_Re_ofShifts 90 = .ok (.iand, 1) := by decide +kernel
theorem d_Re_ofShifts_91 : decode b_Re_ofShifts 91 = .ok (.iload_n 2, 1) := by decide +kernel
theorem d_Re_ofShifts_92 : decode b_Re_ofShifts 92 = .ok (.iushr, 1) := by decide +kernel
theorem d_Re_ofShifts_93 : decode b_Re_ofShifts 93 = .ok (.invokestatic 13, 3) := by decide +kernel
theorem d_Re_ofShifts_96 : decode b_Re_ofShifts 96 = .ok (.goto 4, 3) := by decide +kernel
theorem d_Re_ofShifts_99 : decode b_Re_ofShifts 99 = .ok (.iconst 0, 1) := by decide +kernel
theorem d_Re_ofShifts_100 : decode b_Re_ofShifts 100 = .ok (.ireturn, 1) := by decide +kernel
theorem d_Re_ofShifts_101 : decode b_Re_ofShifts 101 = .ok (.iload 4, 2) := by decide +kernel
theorem d_Re_ofShifts_103 : decode b_Re_ofShifts 103 = .ok (.ifCond .eq 9, 3) := by decide +kernel
theorem d_Re_ofShifts_106 : decode b_Re_ofShifts 106 = .ok (.iload_n 1, 1) := by decide +kernel
theorem d_Re_ofShifts_107 : decode b_Re_ofShifts 107 = .ok (.iload_n 2, 1) := by decide +kernel
theorem d_Re_ofShifts_108 : decode b_Re_ofShifts 108 = .ok (.ishl, 1) := by decide +kernel
theorem d_Re_ofShifts_109 : decode b_Re_ofShifts 109 = .ok (.goto 4, 3) := by decide +kernel
theorem d_Re_ofShifts_112 : decode b_Re_ofShifts 112 = .ok (.iconst 0, 1) := by decide +kernel
theorem d_Re_ofShifts_113 : decode b_Re_ofShifts 113 = .ok (.ireturn, 1) := by decide +kernel
theorem d_Re_ofShifts_114 : decode b_Re_ofShifts 114 = .ok (.iload 4, 2) := by decide +kernel
theorem d_Re_ofShifts_116 : decode b_Re_ofShifts 116 = .ok (.ifCond .eq 9, 3) := by decide +kernel
theorem d_Re_ofShifts_119 : decode b_Re_ofShifts 119 = .ok (.iload_n 1, 1) := by decide +kernel
theorem d_Re_ofShifts_120 : decode b_Re_ofShifts 120 = .ok (.iload_n 2, 1) := by decide +kernel
theorem d_Re_ofShifts_121 : decode b_Re_ofShifts 121 = .ok (.iushr, 1) := by decide +kernel
theorem d_Re_ofShifts_122 : decode b_Re_ofShifts 122 = .ok (.goto 4, 3) := by decide +kernel
theorem d_Re_ofShifts_125 : decode b_Re_ofShifts 125 = .ok (.iconst 0, 1) := by decide +kernel
theorem d_Re_ofShifts_126 : decode b_Re_ofShifts 126 = .ok (.ireturn, 1) := by decide +kernel
theorem d_Re_ofShifts_127 : decode b_Re_ofShifts 127 = .ok (.iload_n 1, 1) := by decide +kernel
theorem d_Re_ofShifts_128 : decode b_Re_ofShifts 128 = .ok (.iload_n 2, 1) := by decide +kernel
theorem d_Re_ofShifts_129 : decode b_Re_ofShifts 129 = .ok (.invokestatic 28, 3) := by decide +kernel
theorem d_Re_ofShifts_132 : decode b_Re_ofShifts 132 = .ok (.ireturn, 1) := by decide +kernel
theorem d_Re_ofShifts_133 : decode b_Re_ofShifts 133 = .ok (.iload_n 1, 1) := by decide +kernel
theorem d_Re_ofShifts_134 : decode b_Re_ofShifts 134 = .ok (.iload_n 2, 1) := by decide +kernel
theorem d_Re_ofShifts_135 : decode b_Re_ofShifts 135 = .ok (.invokestatic 34, 3) := by decide +kernel
theorem d_Re_ofShifts_138 : decode b_Re_ofShifts 138 = .ok (.ireturn, 1) := by decide +kernel
def r_Re_ofShifts_j31 (n : Nat)   (x0 : Int32) (x1 : Int32) (x2 : Int32) (x3 : Int32) (y0 : Int32) : Option (Int32) := if x0 = (19 : Int32) then if x3 = 0 then some ((0 : Int32)) else (r_Re_narrow n (x1 <<< (x2 &&& 31))).bind (fun q3 => some (q3)) else if x0 = (20 : Int32) then if x3 = 0 then some ((0 : Int32)) else (r_Re_narrow n ((x1 &&& (65535 : Int32)).toUInt32 >>> (x2.toUInt32 &&& Int32.toUInt32 31)).toInt32).bind (fun q6 => some (q6)) else if x0 = (21 : Int32) then if y0 = 0 then some ((0 : Int32)) else some ((x1 <<< (x2 &&& 31))) else if x0 = (22 : Int32) then if y0 = 0 then some ((0 : Int32)) else some ((x1.toUInt32 >>> (x2.toUInt32 &&& Int32.toUInt32 31)).toInt32) else if x0 = (23 : Int32) then some ((if x2 < x1 then x2 else x1)) else some ((if x1 < x2 then x2 else x1))
def r_Re_ofShifts_j30 (n : Nat)   (x0 : Int32) (x1 : Int32) (x2 : Int32) (x3 : Int32) : Option (Int32) := r_Re_ofShifts_j31 n x0 x1 x2 x3 (0 : Int32)
def r_Re_ofShifts_j15 (n : Nat)   (x0 : Int32) (x1 : Int32) (x2 : Int32) (y0 : Int32) : Option (Int32) := if x2 < 0 then r_Re_ofShifts_j30 n x0 x1 x2 y0 else if (32 : Int32) ≤ x2 then r_Re_ofShifts_j30 n x0 x1 x2 y0 else r_Re_ofShifts_j31 n x0 x1 x2 y0 (1 : Int32)
def r_Re_ofShifts_j14 (n : Nat)   (x0 : Int32) (x1 : Int32) (x2 : Int32) : Option (Int32) := r_Re_ofShifts_j15 n x0 x1 x2 (0 : Int32)
def r_Re_ofShifts (n : Nat)  (a0 : Int32) (a1 : Int32) (a2 : Int32) : Option (Int32) := if a2 < 0 then r_Re_ofShifts_j14 n a0 a1 a2 else if (16 : Int32) ≤ a2 then r_Re_ofShifts_j14 n a0 a1 a2 else r_Re_ofShifts_j15 n a0 a1 a2 (1 : Int32)
def rm_Re_ofShifts : Jvm.Room := { frames := 1, cells := 0, slots := 0, locals := 24 }
set_option maxHeartbeats 4000000 in
set_option maxRecDepth 100000 in
theorem c_Re_ofShifts {l : Launch} {D : va_G} {cl : List vw_C} {tys : List (ClassId × FieldType)} {ws0 : va_W} {sz n : Nat} {a0 : Int32} {a1 : Int32} {a2 : Int32} {r9 : Int32} (h : r_Re_ofShifts n  a0 a1 a2 = some r9) : Met l y_Re_ofShifts (Cond.code y_Re_ofShifts b_Re_ofShifts 5 (some .int) :: TB) rm_Re_ofShifts (PreW D cl tys ws0 [.int a0, .int a1, .int a2] sz) (PstI D cl tys ws0 ws0 sz r9) 0 0 (va_A ws0 sz) := by
  refine k_met (by decide) (Nat.le_of_ble_eq_true rfl) ?_
  intro p e s m below meth c ls hx hb hr hml hts hown hlk hnm hsz hP hK hD hA hz hl
  have hS : va_S (va_A ws0 sz) s.heap s.heap [] := va_S.rf
  have hl : lv_has ls 5 [(0, .int a0), (1, .int a1), (2, .int a2)] := hl
  generalize hQ : MQ below (PstI D cl tys ws0 ws0 sz r9) [.int a0, .int a1, .int a2].toArray s 0 0 (va_A ws0 sz) = Q
  have J31 : ∀ (x0 : Int32) (x1 : Int32) (x2 : Int32) (x3 : Int32) (y0 : Int32) (H : Heap) (locs : List Loc) (ls : Array Slot), r_Re_ofShifts_j31 n x0 x1 x2 x3 y0 = some r9 → va_P D cl ws0 H → va_D (va_A ws0 sz) ws0 → va_S (va_A ws0 sz) s.heap H locs → lv_has ls 5 [(0, .int x0), (1, .int x1), (2, .int x2), (3, .int x3)] → W p l e rm_Re_ofShifts s m [.int a0, .int a1, .int a2].toArray below meth c H locs 0 0 Q (F0 m 31 ls [.int y0]) := by
    intro x0 x1 x2 x3 y0 H locs ls h hP hD hS hl
    unfold r_Re_ofShifts_j31 at h
    refine lv_istore (lv' := [(4, .int y0), (0, .int x0), (1, .int x1), (2, .int x2), (3, .int x3)]) hx hb d_Re_ofShifts_31 hl (by decide) rfl (fun ls hl => ?_)
    refine lv_iload_n hx hb d_Re_ofShifts_33 rfl (lv_at hl 1 rfl) ?_
    by_cases c1 : x0 = (19 : Int32)
    · rw [if_pos c1] at h
      refine k_sw c1 ?_
      refine lv_tableIn (tgt := 68) hx hb d_Re_ofShifts_34 (by decide) (by decide) rfl (by decide) ?_
      refine lv_iload_n hx hb d_Re_ofShifts_68 rfl (lv_at hl 4 rfl) ?_
      refine lv_if_eq (tgt := 81) hx hb d_Re_ofShifts_69 (by decide) (fun c2 => ?_) (fun c2 => ?_)
      · rw [if_pos c2] at h
        refine lv_iconst (v := 0) hx hb d_Re_ofShifts_81 (by decide) ?_
        cases h
        subst hQ
        exact k_iret hx hb hr hlk hP hK hD hS d_Re_ofShifts_82
      · rw [if_neg c2] at h
        refine lv_iload_n hx hb d_Re_ofShifts_72 rfl (lv_at hl 2 rfl) ?_
        refine lv_iload_n hx hb d_Re_ofShifts_73 rfl (lv_at hl 3 rfl) ?_
        refine lv_ishl hx hb d_Re_ofShifts_74 ?_
        obtain ⟨q3, hq3, h⟩ := Option.bind_eq_some_iff.mp h
        refine k_I (k_runS ⟨hx, hb, hml, hown, hts⟩ (c_Re_narrow hq3) ok_Re_narrow is_Re_narrow lk_577 rfl rfl ⟨by decide, by decide⟩ hP hK hD hS hA hz rfl hl.1 rfl (Nat.le_of_ble_eq_true rfl) d_Re_ofShifts_75 ⟨Nat.zero_le _, Nat.zero_le _⟩) hD hS hA (fun H locs hP hD hS => ?_)
        refine lv_goto (tgt := 82) hx hb d_Re_ofShifts_78 (by decide) ?_
        cases h
        subst hQ
        exact k_iret hx hb hr hlk hP hK hD hS d_Re_ofShifts_82
    · rw [if_neg c1] at h
      by_cases c4 : x0 = (20 : Int32)
      · rw [if_pos c4] at h
        refine k_sw c4 ?_
        refine lv_tableIn (tgt := 83) hx hb d_Re_ofShifts_34 (by decide) (by decide) rfl (by decide) ?_
        refine lv_iload_n hx hb d_Re_ofShifts_83 rfl (lv_at hl 4 rfl) ?_
        refine lv_if_eq (tgt := 99) hx hb d_Re_ofShifts_84 (by decide) (fun c5 => ?_) (fun c5 => ?_)
        · rw [if_pos c5] at h
          refine lv_iconst (v := 0) hx hb d_Re_ofShifts_99 (by decide) ?_
          cases h
          subst hQ
          exact k_iret hx hb hr hlk hP hK hD hS d_Re_ofShifts_100
        · rw [if_neg c5] at h
          refine lv_iload_n hx hb d_Re_ofShifts_87 rfl (lv_at hl 2 rfl) ?_
          refine lv_ldc (v := 65535) hx hb hown (hts _ lk_598) d_Re_ofShifts_88 ?_
          refine lv_iand hx hb d_Re_ofShifts_90 ?_
          refine lv_iload_n hx hb d_Re_ofShifts_91 rfl (lv_at hl 3 rfl) ?_
          refine lv_iushr (v := ((x1 &&& (65535 : Int32)).toUInt32 >>> (x2.toUInt32 &&& Int32.toUInt32 31)).toInt32) hx hb d_Re_ofShifts_92 rfl ?_
          obtain ⟨q6, hq6, h⟩ := Option.bind_eq_some_iff.mp h
          refine k_I (k_runS ⟨hx, hb, hml, hown, hts⟩ (c_Re_narrow hq6) ok_Re_narrow is_Re_narrow lk_577 rfl rfl ⟨by decide, by decide⟩ hP hK hD hS hA hz rfl hl.1 rfl (Nat.le_of_ble_eq_true rfl) d_Re_ofShifts_93 ⟨Nat.zero_le _, Nat.zero_le _⟩) hD hS hA (fun H locs hP hD hS => ?_)
          refine lv_goto (tgt := 100) hx hb d_Re_ofShifts_96 (by decide) ?_
          cases h
          subst hQ
          exact k_iret hx hb hr hlk hP hK hD hS d_Re_ofShifts_100
      · rw [if_neg c4] at h
        by_cases c7 : x0 = (21 : Int32)
        · rw [if_pos c7] at h
          refine k_sw c7 ?_
          refine lv_tableIn (tgt := 101) hx hb d_Re_ofShifts_34 (by decide) (by decide) rfl (by decide) ?_
          refine lv_iload hx hb d_Re_ofShifts_101 (lv_at hl 0 rfl) ?_
          refine lv_if_eq (tgt := 112) hx hb d_Re_ofShifts_103 (by decide) (fun c8 => ?_) (fun c8 => ?_)
          · rw [if_pos c8] at h
            refine lv_iconst (v := 0) hx hb d_Re_ofShifts_112 (by decide) ?_
            cases h
            subst hQ
            exact k_iret hx hb hr hlk hP hK hD hS d_Re_ofShifts_113
          · rw [if_neg c8] at h
            refine lv_iload_n hx hb d_Re_ofShifts_106 rfl (lv_at hl 2 rfl) ?_
            refine lv_iload_n hx hb d_Re_ofShifts_107 rfl (lv_at hl 3 rfl) ?_
            refine lv_ishl hx hb d_Re_ofShifts_108 ?_
            refine lv_goto (tgt := 113) hx hb d_Re_ofShifts_109 (by decide) ?_
            cases h
            subst hQ
            exact k_iret hx hb hr hlk hP hK hD hS d_Re_ofShifts_113
        · rw [if_neg c7] at h
          by_cases c9 : x0 = (22 : Int32)
          · rw [if_pos c9] at h
            refine k_sw c9 ?_
            refine lv_tableIn (tgt := 114) hx hb d_Re_ofShifts_34 (by decide) (by decide) rfl (by decide) ?_
            refine lv_iload hx hb d_Re_ofShifts_114 (lv_at hl 0 rfl) ?_
            refine lv_if_eq (tgt := 125) hx hb d_Re_ofShifts_116 (by decide) (fun c10 => ?_) (fun c10 => ?_)
            · rw [if_pos c10] at h
              refine lv_iconst (v := 0) hx hb d_Re_ofShifts_125 (by decide) ?_
              cases h
              subst hQ
              exact k_iret hx hb hr hlk hP hK hD hS d_Re_ofShifts_126
            · rw [if_neg c10] at h
              refine lv_iload_n hx hb d_Re_ofShifts_119 rfl (lv_at hl 2 rfl) ?_
              refine lv_iload_n hx hb d_Re_ofShifts_120 rfl (lv_at hl 3 rfl) ?_
              refine lv_iushr (v := (x1.toUInt32 >>> (x2.toUInt32 &&& Int32.toUInt32 31)).toInt32) hx hb d_Re_ofShifts_121 rfl ?_
              refine lv_goto (tgt := 126) hx hb d_Re_ofShifts_122 (by decide) ?_
              cases h
              subst hQ
              exact k_iret hx hb hr hlk hP hK hD hS d_Re_ofShifts_126
          · rw [if_neg c9] at h
            by_cases c11 : x0 = (23 : Int32)
            · rw [if_pos c11] at h
              refine k_sw c11 ?_
              refine lv_tableIn (tgt := 127) hx hb d_Re_ofShifts_34 (by decide) (by decide) rfl (by decide) ?_
              refine lv_iload_n hx hb d_Re_ofShifts_127 rfl (lv_at hl 2 rfl) ?_
              refine lv_iload_n hx hb d_Re_ofShifts_128 rfl (lv_at hl 3 rfl) ?_
              refine va_mmin hx hb (by rw [hml]; exact hl.1.symm) hown (hts _ lk_599) (hts _ is_Ma_minI) (hts _ ok_Ma_minI.2.1) (hts _ ok_Ma_minI.1) (by decide) (Nat.le_of_ble_eq_true rfl) (Nat.zero_le _) (Nat.zero_le _) d_Re_ofShifts_129 ?_
              cases h
              subst hQ
              exact k_iret hx hb hr hlk hP hK hD hS d_Re_ofShifts_132
            · rw [if_neg c11] at h
              refine lv_tableOut (tgt := 133) hx hb d_Re_ofShifts_34 (by have ec1 := lv_neT c1 (a := 19) (by decide); have ec4 := lv_neT c4 (a := 20) (by decide); have ec7 := lv_neT c7 (a := 21) (by decide); have ec9 := lv_neT c9 (a := 22) (by decide); have ec11 := lv_neT c11 (a := 23) (by decide); omega) (by decide) ?_
              refine lv_iload_n hx hb d_Re_ofShifts_133 rfl (lv_at hl 2 rfl) ?_
              refine lv_iload_n hx hb d_Re_ofShifts_134 rfl (lv_at hl 3 rfl) ?_
              refine va_mmax hx hb (by rw [hml]; exact hl.1.symm) hown (hts _ lk_600) (hts _ is_Ma_maxI) (hts _ ok_Ma_maxI.2.1) (hts _ ok_Ma_maxI.1) (by decide) (Nat.le_of_ble_eq_true rfl) (Nat.zero_le _) (Nat.zero_le _) d_Re_ofShifts_135 ?_
              cases h
              subst hQ
              exact k_iret hx hb hr hlk hP hK hD hS d_Re_ofShifts_138
  have J30 : ∀ (x0 : Int32) (x1 : Int32) (x2 : Int32) (x3 : Int32) (H : Heap) (locs : List Loc) (ls : Array Slot), r_Re_ofShifts_j30 n x0 x1 x2 x3 = some r9 → va_P D cl ws0 H → va_D (va_A ws0 sz) ws0 → va_S (va_A ws0 sz) s.heap H locs → lv_has ls 5 [(0, .int x0), (1, .int x1), (2, .int x2), (3, .int x3)] → W p l e rm_Re_ofShifts s m [.int a0, .int a1, .int a2].toArray below meth c H locs 0 0 Q (F0 m 30 ls []) := by
    intro x0 x1 x2 x3 H locs ls h hP hD hS hl
    unfold r_Re_ofShifts_j30 at h
    refine lv_iconst (v := 0) hx hb d_Re_ofShifts_30 (by decide) ?_
    exact J31 _ _ _ _ _ _ _ _ h hP hD hS (lv_sub hl [0, 1, 2, 3] rfl)
  have J15 : ∀ (x0 : Int32) (x1 : Int32) (x2 : Int32) (y0 : Int32) (H : Heap) (locs : List Loc) (ls : Array Slot), r_Re_ofShifts_j15 n x0 x1 x2 y0 = some r9 → va_P D cl ws0 H → va_D (va_A ws0 sz) ws0 → va_S (va_A ws0 sz) s.heap H locs → lv_has ls 5 [(0, .int x0), (1, .int x1), (2, .int x2)] → W p l e rm_Re_ofShifts s m [.int a0, .int a1, .int a2].toArray below meth c H locs 0 0 Q (F0 m 15 ls [.int y0]) := by
    intro x0 x1 x2 y0 H locs ls h hP hD hS hl
    unfold r_Re_ofShifts_j15 at h
    refine lv_istore_n (lv' := [(3, .int y0), (0, .int x0), (1, .int x1), (2, .int x2)]) hx hb d_Re_ofShifts_15 rfl hl (by decide) rfl (fun ls hl => ?_)
    refine lv_iload_n hx hb d_Re_ofShifts_16 rfl (lv_at hl 3 rfl) ?_
    refine lv_if_lt (tgt := 30) hx hb d_Re_ofShifts_17 (by decide) (fun c12 => ?_) (fun c12 => ?_)
    · rw [if_pos c12] at h
      exact J30 _ _ _ _ _ _ _ h hP hD hS (lv_sub hl [1, 2, 3, 0] rfl)
    · rw [if_neg c12] at h
      refine lv_iload_n hx hb d_Re_ofShifts_20 rfl (lv_at hl 3 rfl) ?_
      refine lv_bipush (v := 32) hx hb d_Re_ofShifts_21 (by decide) ?_
      refine lv_icmp_ge (tgt := 30) hx hb d_Re_ofShifts_23 (by decide) (fun c13 => ?_) (fun c13 => ?_)
      · rw [if_pos c13] at h
        exact J30 _ _ _ _ _ _ _ h hP hD hS (lv_sub hl [1, 2, 3, 0] rfl)
      · rw [if_neg c13] at h
        refine lv_iconst (v := 1) hx hb d_Re_ofShifts_26 (by decide) ?_
        refine lv_goto (tgt := 31) hx hb d_Re_ofShifts_27 (by decide) ?_
        exact J31 _ _ _ _ _ _ _ _ h hP hD hS (lv_sub hl [1, 2, 3, 0] rfl)
  have J14 : ∀ (x0 : Int32) (x1 : Int32) (x2 : Int32) (H : Heap) (locs : List Loc) (ls : Array Slot), r_Re_ofShifts_j14 n x0 x1 x2 = some r9 → va_P D cl ws0 H → va_D (va_A ws0 sz) ws0 → va_S (va_A ws0 sz) s.heap H locs → lv_has ls 5 [(0, .int x0), (1, .int x1), (2, .int x2)] → W p l e rm_Re_ofShifts s m [.int a0, .int a1, .int a2].toArray below meth c H locs 0 0 Q (F0 m 14 ls []) := by
    intro x0 x1 x2 H locs ls h hP hD hS hl
    unfold r_Re_ofShifts_j14 at h
    refine lv_iconst (v := 0) hx hb d_Re_ofShifts_14 (by decide) ?_
    exact J15 _ _ _ _ _ _ _ h hP hD hS (lv_sub hl [0, 1, 2] rfl)
  unfold r_Re_ofShifts at h
  refine lv_iload_n hx hb d_Re_ofShifts_0 rfl (lv_at hl 2 rfl) ?_
  refine lv_if_lt (tgt := 14) hx hb d_Re_ofShifts_1 (by decide) (fun c14 => ?_) (fun c14 => ?_)
  · rw [if_pos c14] at h
    exact J14 _ _ _ _ _ _ h hP hD hS (lv_sub hl [0, 1, 2] rfl)
  · rw [if_neg c14] at h
    refine lv_iload_n hx hb d_Re_ofShifts_4 rfl (lv_at hl 2 rfl) ?_
    refine lv_bipush (v := 16) hx hb d_Re_ofShifts_5 (by decide) ?_
    refine lv_icmp_ge (tgt := 14) hx hb d_Re_ofShifts_7 (by decide) (fun c15 => ?_) (fun c15 => ?_)
    · rw [if_pos c15] at h
      exact J14 _ _ _ _ _ _ h hP hD hS (lv_sub hl [0, 1, 2] rfl)
    · rw [if_neg c15] at h
      refine lv_iconst (v := 1) hx hb d_Re_ofShifts_10 (by decide) ?_
      refine lv_goto (tgt := 15) hx hb d_Re_ofShifts_11 (by decide) ?_
      exact J15 _ _ _ _ _ _ _ h hP hD hS (lv_sub hl [0, 1, 2] rfl)
theorem d_Re_ofTwo_0 : decode b_Re_ofTwo 0 = .ok (.iload_n 0, 1) := by decide +kernel
theorem d_Re_ofTwo_1 : decode b_Re_ofTwo 1 = .ok (.iconst 4, 1) := by decide +kernel
theorem d_Re_ofTwo_2 : decode b_Re_ofTwo 2 = .ok (.if_icmp .gt 13, 3) := by decide +kernel
theorem d_Re_ofTwo_5 : decode b_Re_ofTwo 5 = .ok (.iload_n 0, 1) := by decide +kernel
theorem d_Re_ofTwo_6 : decode b_Re_ofTwo 6 = .ok (.iload_n 1, 1) := by decide +kernel
theorem d_Re_ofTwo_7 : decode b_Re_ofTwo 7 = .ok (.iload_n 2, 1) := by decide +kernel
theorem d_Re_ofTwo_8 : decode b_Re_ofTwo 8 = .ok (.invokestatic 7, 3) := by decide +kernel
theorem d_Re_ofTwo_11 : decode b_Re_ofTwo 11 = .ok (.invokestatic 13, 3) := by decide +kernel
theorem d_Re_ofTwo_14 : decode b_Re_ofTwo 14 = .ok (.ireturn, 1) := by decide +kernel
theorem d_Re_ofTwo_15 : decode b_Re_ofTwo 15 = .ok (.iload_n 0, 1) := by decide +kernel
theorem d_Re_ofTwo_16 : decode b_Re_ofTwo 16 = .ok (.bipush 9, 2) := by decide +kernel
theorem d_Re_ofTwo_18 : decode b_Re_ofTwo 18 = .ok (.if_icmp .gt 12, 3) := by decide +kernel
theorem d_Re_ofTwo_21 : decode b_Re_ofTwo 21 = .ok (.iload_n 0, 1) := by decide +kernel
theorem d_Re_ofTwo_22 : decode b_Re_ofTwo 22 = .ok (.iconst 5, 1) := by decide +kernel
theorem d_Re_ofTwo_23 : decode b_Re_ofTwo 23 = .ok (.isub, 1) := by decide +kernel
theorem d_Re_ofTwo_24 : decode b_Re_ofTwo 24 = .ok (.iload_n 1, 1) := by decide +kernel
theorem d_Re_ofTwo_25 : decode b_Re_ofTwo 25 = .ok (.iload_n 2, 1) := by decide +kernel
theorem d_Re_ofTwo_26 : decode b_Re_ofTwo 26 = .ok (.invokestatic 7, 3) := by decide +kernel
theorem d_Re_ofTwo_29 : decode b_Re_ofTwo 29 = .ok (.ireturn, 1) := by decide +kernel
theorem d_Re_ofTwo_30 : decode b_Re_ofTwo 30 = .ok (.iload_n 0, 1) := by decide +kernel
theorem d_Re_ofTwo_31 : decode b_Re_ofTwo 31 = .ok (.bipush 18, 2) := by decide +kernel
theorem d_Re_ofTwo_33 : decode b_Re_ofTwo 33 = .ok (.if_icmp .gt 12, 3) := by decide +kernel
theorem d_Re_ofTwo_36 : decode b_Re_ofTwo 36 = .ok (.iload_n 0, 1) := by decide +kernel
theorem d_Re_ofTwo_37 : decode b_Re_ofTwo 37 = .ok (.iload_n 1, 1) := by decide +kernel
theorem d_Re_ofTwo_38 : decode b_Re_ofTwo 38 = .ok (.iload_n 2, 1) := by decide +kernel
theorem d_Re_ofTwo_39 : decode b_Re_ofTwo 39 = .ok (.invokestatic 17, 3) := by decide +kernel
theorem d_Re_ofTwo_42 : decode b_Re_ofTwo 42 = .ok (.goto 9, 3) := by decide +kernel
theorem d_Re_ofTwo_45 : decode b_Re_ofTwo 45 = .ok (.iload_n 0, 1) := by decide +kernel
theorem d_Re_ofTwo_46 : decode b_Re_ofTwo 46 = .ok (.iload_n 1, 1) := by decide +kernel
theorem d_Re_ofTwo_47 : decode b_Re_ofTwo 47 = .ok (.iload_n 2, 1) := by decide +kernel
theorem d_Re_ofTwo_48 : decode b_Re_ofTwo 48 = .ok (.invokestatic 20, 3) := by decide +kernel
theorem d_Re_ofTwo_51 : decode b_Re_ofTwo 51 = .ok (.ireturn, 1) := by decide +kernel
def r_Re_ofTwo (n : Nat)  (a0 : Int32) (a1 : Int32) (a2 : Int32) : Option (Int32) := if (4 : Int32) < a0 then if (9 : Int32) < a0 then if (18 : Int32) < a0 then (r_Re_ofShifts n a0 a1 a2).bind (fun q4 => some (q4)) else (r_Re_ofBitsAndOrder n a0 a1 a2).bind (fun q5 => some (q5)) else (r_Re_ofArithmetic n (a0 - (5 : Int32)) a1 a2).bind (fun q6 => some (q6)) else (r_Re_ofArithmetic n a0 a1 a2).bind (fun q7 => (r_Re_narrow n q7).bind (fun q8 => some (q8)))
def rm_Re_ofTwo : Jvm.Room := { frames := 2, cells := 0, slots := 0, locals := 48 }
set_option maxHeartbeats 4000000 in
set_option maxRecDepth 100000 in
theorem c_Re_ofTwo {l : Launch} {D : va_G} {cl : List vw_C} {tys : List (ClassId × FieldType)} {ws0 : va_W} {sz n : Nat} {a0 : Int32} {a1 : Int32} {a2 : Int32} {r9 : Int32} (h : r_Re_ofTwo n  a0 a1 a2 = some r9) : Met l y_Re_ofTwo (Cond.code y_Re_ofTwo b_Re_ofTwo 3 (some .int) :: TB) rm_Re_ofTwo (PreW D cl tys ws0 [.int a0, .int a1, .int a2] sz) (PstI D cl tys ws0 ws0 sz r9) 0 0 (va_A ws0 sz) := by
  refine k_met (by decide) (Nat.le_of_ble_eq_true rfl) ?_
  intro p e s m below meth c ls hx hb hr hml hts hown hlk hnm hsz hP hK hD hA hz hl
  have hS : va_S (va_A ws0 sz) s.heap s.heap [] := va_S.rf
  have hl : lv_has ls 3 [(0, .int a0), (1, .int a1), (2, .int a2)] := hl
  generalize hQ : MQ below (PstI D cl tys ws0 ws0 sz r9) [.int a0, .int a1, .int a2].toArray s 0 0 (va_A ws0 sz) = Q
  unfold r_Re_ofTwo at h
  refine lv_iload_n hx hb d_Re_ofTwo_0 rfl (lv_at hl 0 rfl) ?_
  refine lv_iconst (v := 4) hx hb d_Re_ofTwo_1 (by decide) ?_
  refine lv_icmp_gt (tgt := 15) hx hb d_Re_ofTwo_2 (by decide) (fun c1 => ?_) (fun c1 => ?_)
  · rw [if_pos c1] at h
    refine lv_iload_n hx hb d_Re_ofTwo_15 rfl (lv_at hl 0 rfl) ?_
    refine lv_bipush (v := 9) hx hb d_Re_ofTwo_16 (by decide) ?_
    refine lv_icmp_gt (tgt := 30) hx hb d_Re_ofTwo_18 (by decide) (fun c2 => ?_) (fun c2 => ?_)
    · rw [if_pos c2] at h
      refine lv_iload_n hx hb d_Re_ofTwo_30 rfl (lv_at hl 0 rfl) ?_
      refine lv_bipush (v := 18) hx hb d_Re_ofTwo_31 (by decide) ?_
      refine lv_icmp_gt (tgt := 45) hx hb d_Re_ofTwo_33 (by decide) (fun c3 => ?_) (fun c3 => ?_)
      · rw [if_pos c3] at h
        refine lv_iload_n hx hb d_Re_ofTwo_45 rfl (lv_at hl 0 rfl) ?_
        refine lv_iload_n hx hb d_Re_ofTwo_46 rfl (lv_at hl 1 rfl) ?_
        refine lv_iload_n hx hb d_Re_ofTwo_47 rfl (lv_at hl 2 rfl) ?_
        obtain ⟨q4, hq4, h⟩ := Option.bind_eq_some_iff.mp h
        refine k_I (k_runS ⟨hx, hb, hml, hown, hts⟩ (c_Re_ofShifts hq4) ok_Re_ofShifts is_Re_ofShifts lk_595 rfl rfl ⟨by decide, by decide⟩ hP hK hD hS hA hz rfl hl.1 rfl (Nat.le_of_ble_eq_true rfl) d_Re_ofTwo_48 ⟨Nat.zero_le _, Nat.zero_le _⟩) hD hS hA (fun H locs hP hD hS => ?_)
        cases h
        subst hQ
        exact k_iret hx hb hr hlk hP hK hD hS d_Re_ofTwo_51
      · rw [if_neg c3] at h
        refine lv_iload_n hx hb d_Re_ofTwo_36 rfl (lv_at hl 0 rfl) ?_
        refine lv_iload_n hx hb d_Re_ofTwo_37 rfl (lv_at hl 1 rfl) ?_
        refine lv_iload_n hx hb d_Re_ofTwo_38 rfl (lv_at hl 2 rfl) ?_
        obtain ⟨q5, hq5, h⟩ := Option.bind_eq_some_iff.mp h
        refine k_I (k_runS ⟨hx, hb, hml, hown, hts⟩ (c_Re_ofBitsAndOrder hq5) ok_Re_ofBitsAndOrder is_Re_ofBitsAndOrder lk_592 rfl rfl ⟨by decide, by decide⟩ hP hK hD hS hA hz rfl hl.1 rfl (Nat.le_of_ble_eq_true rfl) d_Re_ofTwo_39 ⟨Nat.zero_le _, Nat.zero_le _⟩) hD hS hA (fun H locs hP hD hS => ?_)
        refine lv_goto (tgt := 51) hx hb d_Re_ofTwo_42 (by decide) ?_
        cases h
        subst hQ
        exact k_iret hx hb hr hlk hP hK hD hS d_Re_ofTwo_51
    · rw [if_neg c2] at h
      refine lv_iload_n hx hb d_Re_ofTwo_21 rfl (lv_at hl 0 rfl) ?_
      refine lv_iconst (v := 5) hx hb d_Re_ofTwo_22 (by decide) ?_
      refine lv_isub hx hb d_Re_ofTwo_23 ?_
      refine lv_iload_n hx hb d_Re_ofTwo_24 rfl (lv_at hl 1 rfl) ?_
      refine lv_iload_n hx hb d_Re_ofTwo_25 rfl (lv_at hl 2 rfl) ?_
      obtain ⟨q6, hq6, h⟩ := Option.bind_eq_some_iff.mp h
      refine k_I (k_runS ⟨hx, hb, hml, hown, hts⟩ (c_Re_ofArithmetic hq6) ok_Re_ofArithmetic is_Re_ofArithmetic lk_589 rfl rfl ⟨by decide, by decide⟩ hP hK hD hS hA hz rfl hl.1 rfl (Nat.le_of_ble_eq_true rfl) d_Re_ofTwo_26 ⟨Nat.zero_le _, Nat.zero_le _⟩) hD hS hA (fun H locs hP hD hS => ?_)
      cases h
      subst hQ
      exact k_iret hx hb hr hlk hP hK hD hS d_Re_ofTwo_29
  · rw [if_neg c1] at h
    refine lv_iload_n hx hb d_Re_ofTwo_5 rfl (lv_at hl 0 rfl) ?_
    refine lv_iload_n hx hb d_Re_ofTwo_6 rfl (lv_at hl 1 rfl) ?_
    refine lv_iload_n hx hb d_Re_ofTwo_7 rfl (lv_at hl 2 rfl) ?_
    obtain ⟨q7, hq7, h⟩ := Option.bind_eq_some_iff.mp h
    refine k_I (k_runS ⟨hx, hb, hml, hown, hts⟩ (c_Re_ofArithmetic hq7) ok_Re_ofArithmetic is_Re_ofArithmetic lk_589 rfl rfl ⟨by decide, by decide⟩ hP hK hD hS hA hz rfl hl.1 rfl (Nat.le_of_ble_eq_true rfl) d_Re_ofTwo_8 ⟨Nat.zero_le _, Nat.zero_le _⟩) hD hS hA (fun H locs hP hD hS => ?_)
    obtain ⟨q8, hq8, h⟩ := Option.bind_eq_some_iff.mp h
    refine k_I (k_runS ⟨hx, hb, hml, hown, hts⟩ (c_Re_narrow hq8) ok_Re_narrow is_Re_narrow lk_577 rfl rfl ⟨by decide, by decide⟩ hP hK hD hS hA hz rfl hl.1 rfl (Nat.le_of_ble_eq_true rfl) d_Re_ofTwo_11 ⟨Nat.zero_le _, Nat.zero_le _⟩) hD hS hA (fun H locs hP hD hS => ?_)
    cases h
    subst hQ
    exact k_iret hx hb hr hlk hP hK hD hS d_Re_ofTwo_14
