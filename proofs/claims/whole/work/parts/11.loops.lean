/-! printed by wip/gen/gen3.py: pure functions and contracts of ScanMachine$Loops -/
theorem d_Lo_isIn_0 : decode b_Lo_isIn 0 = .ok (.iload_n 1, 1) := by decide +kernel
theorem d_Lo_isIn_1 : decode b_Lo_isIn 1 = .ok (.iload_n 2, 1) := by decide +kernel
theorem d_Lo_isIn_2 : decode b_Lo_isIn 2 = .ok (.if_icmp .le 23, 3) := by decide +kernel
theorem d_Lo_isIn_5 : decode b_Lo_isIn 5 = .ok (.iload_n 1, 1) := by decide +kernel
theorem d_Lo_isIn_6 : decode b_Lo_isIn 6 = .ok (.aload_n 0, 1) := by decide +kernel
theorem d_Lo_isIn_7 : decode b_Lo_isIn 7 = .ok (.getfield 15, 3) := by decide +kernel
theorem d_Lo_isIn_10 : decode b_Lo_isIn 10 = .ok (.aload_n 0, 1) := by decide +kernel
theorem d_Lo_isIn_11 : decode b_Lo_isIn 11 = .ok (.getfield 19, 3) := by decide +kernel
theorem d_Lo_isIn_14 : decode b_Lo_isIn 14 = .ok (.iload_n 2, 1) := by decide +kernel
theorem d_Lo_isIn_15 : decode b_Lo_isIn 15 = .ok (.invokevirtual 62, 3) := by decide +kernel
theorem d_Lo_isIn_18 : decode b_Lo_isIn 18 = .ok (.if_icmp .ge 7, 3) := by decide +kernel
theorem d_Lo_isIn_21 : decode b_Lo_isIn 21 = .ok (.iconst 1, 1) := by decide +kernel
theorem d_Lo_isIn_22 : decode b_Lo_isIn 22 = .ok (.goto 4, 3) := by decide +kernel
theorem d_Lo_isIn_25 : decode b_Lo_isIn 25 = .ok (.iconst 0, 1) := by decide +kernel
theorem d_Lo_isIn_26 : decode b_Lo_isIn 26 = .ok (.ireturn, 1) := by decide +kernel
def r_Lo_isIn (n : Nat) (ko : T_ko) (lo : T_lo) (a0 : Int32) (a1 : Int32) : Option (Int32) := if a0 ≤ a1 then some ((0 : Int32)) else (r_Co_bAt n ko (lo_unit lo) a1).bind (fun q2 => if q2 ≤ a0 then some ((0 : Int32)) else some ((1 : Int32)))
def rm_Lo_isIn : Jvm.Room := { frames := 2, cells := 0, slots := 0, locals := 46 }
set_option maxHeartbeats 4000000 in
set_option maxRecDepth 100000 in
theorem c_Lo_isIn {l : Launch} {D : va_G} {cI cL : ClassId} {ad : Nat → Nat} {ma : T_ma} {ko : T_ko} {sh : T_sh} {lo : T_lo} {de : T_de} {wa : T_wa} {me : T_me} {ru : T_ru} {ws0 : va_W} {sz n : Nat} {a0 : Int32} {a1 : Int32} {r9 : Int32} (hw : ws0 = (wX cI cL ad ma ko sh lo de wa me ru)) (h : r_Lo_isIn n ko lo a0 a1 = some r9) : Met l y_Lo_isIn (Cond.code y_Lo_isIn b_Lo_isIn 3 (some .boolean) :: TB) rm_Lo_isIn (PreW D clX (tyX cI cL) ws0 [.ref (ad 11), .int a0, .int a1] sz) (PstI D clX (tyX cI cL) ws0 (wX cI cL ad ma ko sh lo de wa me ru) sz r9) 0 0 (va_A ws0 sz) := by
  refine k_met (by decide) (Nat.le_of_ble_eq_true rfl) ?_
  intro p e s m below meth c ls hx hb hr hml hts hown hlk hnm hsz hP hK hD hA hz hl
  have hP : va_P D clX (wX cI cL ad ma ko sh lo de wa me ru) s.heap := by rw [← hw]; exact hP
  have hD : va_D (va_A ws0 sz) (wX cI cL ad ma ko sh lo de wa me ru) := by rw [← hw]; exact hD
  have hS : va_S (va_A ws0 sz) s.heap s.heap [] := va_S.rf
  have hl : lv_has ls 3 [(0, .ref (ad 11)), (1, .int a0), (2, .int a1)] := hl
  generalize hQ : MQ below (PstI D clX (tyX cI cL) ws0 (wX cI cL ad ma ko sh lo de wa me ru) sz r9) [.ref (ad 11), .int a0, .int a1].toArray s 0 0 (va_A ws0 sz) = Q
  unfold r_Lo_isIn at h
  refine lv_iload_n hx hb d_Lo_isIn_0 rfl (lv_at hl 1 rfl) ?_
  refine lv_iload_n hx hb d_Lo_isIn_1 rfl (lv_at hl 2 rfl) ?_
  refine lv_icmp_le (tgt := 25) hx hb d_Lo_isIn_2 (by decide) (fun c1 => ?_) (fun c1 => ?_)
  · rw [if_pos c1] at h
    refine lv_iconst (v := 0) hx hb d_Lo_isIn_25 (by decide) ?_
    cases h
    subst hQ
    exact k_zret hx hb hr hlk (Or.inl rfl) hP hK hD hS d_Lo_isIn_26
  · rw [if_neg c1] at h
    refine lv_iload_n hx hb d_Lo_isIn_5 rfl (lv_at hl 1 rfl) ?_
    refine lv_aload_n hx hb d_Lo_isIn_6 rfl (lv_at hl 0 rfl) ?_
    refine rd_Lo_code hx hb hts hown hK hP lk_94 d_Lo_isIn_7 ?_
    refine lv_aload_n hx hb d_Lo_isIn_10 rfl (lv_at hl 0 rfl) ?_
    refine rd_Lo_unit hx hb hts hown hK hP lk_97 (v := (lo_unit lo)) rfl d_Lo_isIn_11 ?_
    refine lv_iload_n hx hb d_Lo_isIn_14 rfl (lv_at hl 2 rfl) ?_
    obtain ⟨q2, hq2, h⟩ := Option.bind_eq_some_iff.mp h
    refine k_I (k_runVN ⟨hx, hb, hml, hown, hts⟩ (c_Co_bAt rfl hq2) ok_Co_bAt is_Co_bAt lk_443 rfl rfl ⟨by decide, by decide⟩ hP hK hD hS hA hz (ci := 1) (q0 := 1) rfl rfl ob_Co rfl hl.1 rfl (Nat.le_of_ble_eq_true rfl) d_Lo_isIn_15 ⟨Nat.zero_le _, Nat.zero_le _⟩) hD hS hA (fun H locs hP hD hS => ?_)
    refine lv_icmp_ge (tgt := 25) hx hb d_Lo_isIn_18 (by decide) (fun c3 => ?_) (fun c3 => ?_)
    · rw [if_pos c3] at h
      refine lv_iconst (v := 0) hx hb d_Lo_isIn_25 (by decide) ?_
      cases h
      subst hQ
      exact k_zret hx hb hr hlk (Or.inl rfl) hP hK hD hS d_Lo_isIn_26
    · rw [if_neg c3] at h
      refine lv_iconst (v := 1) hx hb d_Lo_isIn_21 (by decide) ?_
      refine lv_goto (tgt := 26) hx hb d_Lo_isIn_22 (by decide) ?_
      cases h
      subst hQ
      exact k_zret hx hb hr hlk (Or.inr rfl) hP hK hD hS d_Lo_isIn_26
theorem d_Lo_goesIntoLoop_0 : decode b_Lo_goesIntoLoop 0 = .ok (.iconst 0, 1) := by decide +kernel
theorem d_Lo_goesIntoLoop_1 : decode b_Lo_goesIntoLoop 1 = .ok (.istore_n 3, 1) := by decide +kernel
theorem d_Lo_goesIntoLoop_2 : decode b_Lo_goesIntoLoop 2 = .ok (.iload_n 3, 1) := by decide +kernel
theorem d_Lo_goesIntoLoop_3 : decode b_Lo_goesIntoLoop 3 = .ok (.aload_n 0, 1) := by decide +kernel
theorem d_Lo_goesIntoLoop_4 : decode b_Lo_goesIntoLoop 4 = .ok (.getfield 36, 3) := by decide +kernel
theorem d_Lo_goesIntoLoop_7 : decode b_Lo_goesIntoLoop 7 = .ok (.if_icmp .ge 61, 3) := by decide +kernel
theorem d_Lo_goesIntoLoop_10 : decode b_Lo_goesIntoLoop 10 = .ok (.iload_n 2, 1) := by decide +kernel
theorem d_Lo_goesIntoLoop_11 : decode b_Lo_goesIntoLoop 11 = .ok (.aload_n 0, 1) := by decide +kernel
theorem d_Lo_goesIntoLoop_12 : decode b_Lo_goesIntoLoop 12 = .ok (.getfield 9, 3) := by decide +kernel
theorem d_Lo_goesIntoLoop_15 : decode b_Lo_goesIntoLoop 15 = .ok (.iload_n 3, 1) := by decide +kernel
theorem d_Lo_goesIntoLoop_16 : decode b_Lo_goesIntoLoop 16 = .ok (.iaload, 1) := by decide +kernel
theorem d_Lo_goesIntoLoop_17 : decode b_Lo_goesIntoLoop 17 = .ok (.if_icmp .eq 17, 3) := by decide +kernel
theorem d_Lo_goesIntoLoop_20 : decode b_Lo_goesIntoLoop 20 = .ok (.aload_n 0, 1) := by decide +kernel
theorem d_Lo_goesIntoLoop_21 : decode b_Lo_goesIntoLoop 21 = .ok (.iload_n 2, 1) := by decide +kernel
theorem d_Lo_goesIntoLoop_22 : decode b_Lo_goesIntoLoop 22 = .ok (.aload_n 0, 1) := by decide +kernel
theorem d_Lo_goesIntoLoop_23 : decode b_Lo_goesIntoLoop 23 = .ok (.getfield 9, 3) := by decide +kernel
theorem d_Lo_goesIntoLoop_26 : decode b_Lo_goesIntoLoop 26 = .ok (.iload_n 3, 1) := by decide +kernel
theorem d_Lo_goesIntoLoop_27 : decode b_Lo_goesIntoLoop 27 = .ok (.iaload, 1) := by decide +kernel
theorem d_Lo_goesIntoLoop_28 : decode b_Lo_goesIntoLoop 28 = .ok (.invokevirtual 59, 3) := by decide +kernel
theorem d_Lo_goesIntoLoop_31 : decode b_Lo_goesIntoLoop 31 = .ok (.ifCond .eq 7, 3) := by decide +kernel
theorem d_Lo_goesIntoLoop_34 : decode b_Lo_goesIntoLoop 34 = .ok (.iconst 1, 1) := by decide +kernel
theorem d_Lo_goesIntoLoop_35 : decode b_Lo_goesIntoLoop 35 = .ok (.goto 4, 3) := by decide +kernel
theorem d_Lo_goesIntoLoop_38 : decode b_Lo_goesIntoLoop 38 = .ok (.iconst 0, 1) := by decide +kernel
theorem d_Lo_goesIntoLoop_39 : decode b_Lo_goesIntoLoop 39 = .ok (.istore 4, 2) := by decide +kernel
theorem d_Lo_goesIntoLoop_41 : decode b_Lo_goesIntoLoop 41 = .ok (.iload 4, 2) := by decide +kernel
theorem d_Lo_goesIntoLoop_43 : decode b_Lo_goesIntoLoop 43 = .ok (.ifCond .eq 19, 3) := by decide +kernel
theorem d_Lo_goesIntoLoop_46 : decode b_Lo_goesIntoLoop 46 = .ok (.aload_n 0, 1) := by decide +kernel
theorem d_Lo_goesIntoLoop_47 : decode b_Lo_goesIntoLoop 47 = .ok (.iload_n 1, 1) := by decide +kernel
theorem d_Lo_goesIntoLoop_48 : decode b_Lo_goesIntoLoop 48 = .ok (.aload_n 0, 1) := by decide +kernel
theorem d_Lo_goesIntoLoop_49 : decode b_Lo_goesIntoLoop 49 = .ok (.getfield 9, 3) := by decide +kernel
theorem d_Lo_goesIntoLoop_52 : decode b_Lo_goesIntoLoop 52 = .ok (.iload_n 3, 1) := by decide +kernel
theorem d_Lo_goesIntoLoop_53 : decode b_Lo_goesIntoLoop 53 = .ok (.iaload, 1) := by decide +kernel
theorem d_Lo_goesIntoLoop_54 : decode b_Lo_goesIntoLoop 54 = .ok (.invokevirtual 59, 3) := by decide +kernel
theorem d_Lo_goesIntoLoop_57 : decode b_Lo_goesIntoLoop 57 = .ok (.ifCond .ne 5, 3) := by decide +kernel
theorem d_Lo_goesIntoLoop_60 : decode b_Lo_goesIntoLoop 60 = .ok (.iconst 1, 1) := by decide +kernel
theorem d_Lo_goesIntoLoop_61 : decode b_Lo_goesIntoLoop 61 = .ok (.ireturn, 1) := by decide +kernel
theorem d_Lo_goesIntoLoop_62 : decode b_Lo_goesIntoLoop 62 = .ok (.iinc 3 1, 3) := by decide +kernel
theorem d_Lo_goesIntoLoop_65 : decode b_Lo_goesIntoLoop 65 = .ok (.goto (-63), 3) := by decide +kernel
theorem d_Lo_goesIntoLoop_68 : decode b_Lo_goesIntoLoop 68 = .ok (.iconst 0, 1) := by decide +kernel
theorem d_Lo_goesIntoLoop_69 : decode b_Lo_goesIntoLoop 69 = .ok (.ireturn, 1) := by decide +kernel
def r_Lo_goesIntoLoop_j39 (n : Nat) (ko : T_ko) (lo : T_lo) (k2 : Int32 → Int32 → Int32 → Option (Int32)) (x1 : Int32) (x2 : Int32) (x3 : Int32) (y0 : Int32) : Option (Int32) := if y0 = 0 then k2 x1 x2 (x3 + 1) else gr (lo_nexts lo) x3 256 (fun v3 => (r_Lo_isIn n ko lo x1 v3).bind (fun q4 => if q4 = 0 then some ((1 : Int32)) else k2 x1 x2 (x3 + 1)))
def r_Lo_goesIntoLoop_j34 (n : Nat) (ko : T_ko) (lo : T_lo) (k2 : Int32 → Int32 → Int32 → Option (Int32)) (x1 : Int32) (x2 : Int32) (x3 : Int32) : Option (Int32) := r_Lo_goesIntoLoop_j39 n ko lo k2 x1 x2 x3 (1 : Int32)
def r_Lo_goesIntoLoop_l2 (n : Nat) (ko : T_ko) (lo : T_lo)  : Nat → Int32 → Int32 → Int32 → Option (Int32)
  | 0, _, _, _ => none
  | f + 1, x1, x2, x3 => if (lo_loops lo) ≤ x3 then some ((0 : Int32)) else gr (lo_nexts lo) x3 256 (fun v8 => if x2 = v8 then r_Lo_goesIntoLoop_j34 n ko lo (r_Lo_goesIntoLoop_l2 n ko lo f) x1 x2 x3 else gr (lo_nexts lo) x3 256 (fun v11 => (r_Lo_isIn n ko lo x2 v11).bind (fun q12 => if q12 = 0 then r_Lo_goesIntoLoop_j39 n ko lo (r_Lo_goesIntoLoop_l2 n ko lo f) x1 x2 x3 (0 : Int32) else r_Lo_goesIntoLoop_j34 n ko lo (r_Lo_goesIntoLoop_l2 n ko lo f) x1 x2 x3)))
def r_Lo_goesIntoLoop (n : Nat) (ko : T_ko) (lo : T_lo) (a0 : Int32) (a1 : Int32) : Option (Int32) := r_Lo_goesIntoLoop_l2 n ko lo n a0 a1 (0 : Int32)
def rm_Lo_goesIntoLoop : Jvm.Room := { frames := 3, cells := 0, slots := 0, locals := 68 }
set_option maxHeartbeats 4000000 in
set_option maxRecDepth 100000 in
theorem c_Lo_goesIntoLoop {l : Launch} {D : va_G} {cI cL : ClassId} {ad : Nat → Nat} {ma : T_ma} {ko : T_ko} {sh : T_sh} {lo : T_lo} {de : T_de} {wa : T_wa} {me : T_me} {ru : T_ru} {ws0 : va_W} {sz n : Nat} {a0 : Int32} {a1 : Int32} {r9 : Int32} (hw : ws0 = (wX cI cL ad ma ko sh lo de wa me ru)) (h : r_Lo_goesIntoLoop n ko lo a0 a1 = some r9) : Met l y_Lo_goesIntoLoop (Cond.code y_Lo_goesIntoLoop b_Lo_goesIntoLoop 5 (some .boolean) :: TB) rm_Lo_goesIntoLoop (PreW D clX (tyX cI cL) ws0 [.ref (ad 11), .int a0, .int a1] sz) (PstI D clX (tyX cI cL) ws0 (wX cI cL ad ma ko sh lo de wa me ru) sz r9) 0 0 (va_A ws0 sz) := by
  refine k_met (by decide) (Nat.le_of_ble_eq_true rfl) ?_
  intro p e s m below meth c ls hx hb hr hml hts hown hlk hnm hsz hP hK hD hA hz hl
  have hP : va_P D clX (wX cI cL ad ma ko sh lo de wa me ru) s.heap := by rw [← hw]; exact hP
  have hD : va_D (va_A ws0 sz) (wX cI cL ad ma ko sh lo de wa me ru) := by rw [← hw]; exact hD
  have hS : va_S (va_A ws0 sz) s.heap s.heap [] := va_S.rf
  have hl : lv_has ls 5 [(0, .ref (ad 11)), (1, .int a0), (2, .int a1)] := hl
  generalize hQ : MQ below (PstI D clX (tyX cI cL) ws0 (wX cI cL ad ma ko sh lo de wa me ru) sz r9) [.ref (ad 11), .int a0, .int a1].toArray s 0 0 (va_A ws0 sz) = Q
  have L2 : ∀ (f2 : Nat), ∀ (x1 : Int32) (x2 : Int32) (x3 : Int32) (H : Heap) (locs : List Loc) (ls : Array Slot), r_Lo_goesIntoLoop_l2 n ko lo f2 x1 x2 x3 = some r9 → va_P D clX (wX cI cL ad ma ko sh lo de wa me ru) H → va_D (va_A ws0 sz) (wX cI cL ad ma ko sh lo de wa me ru) → va_S (va_A ws0 sz) s.heap H locs → lv_has ls 5 [(0, .ref (ad 11)), (1, .int x1), (2, .int x2), (3, .int x3)] → W p l e rm_Lo_goesIntoLoop s m [.ref (ad 11), .int a0, .int a1].toArray below meth c H locs 0 0 Q (F0 m 2 ls []) := by
    intro f2
    induction f2 with
    | zero =>
      intro x1 x2 x3 H locs ls h hP hD hS hl
      exact absurd h (by intro h; cases h)
    | succ f2 ih2 =>
      have J39 : ∀ (x1 : Int32) (x2 : Int32) (x3 : Int32) (y0 : Int32) (H : Heap) (locs : List Loc) (ls : Array Slot), r_Lo_goesIntoLoop_j39 n ko lo (r_Lo_goesIntoLoop_l2 n ko lo f2) x1 x2 x3 y0 = some r9 → va_P D clX (wX cI cL ad ma ko sh lo de wa me ru) H → va_D (va_A ws0 sz) (wX cI cL ad ma ko sh lo de wa me ru) → va_S (va_A ws0 sz) s.heap H locs → lv_has ls 5 [(0, .ref (ad 11)), (1, .int x1), (2, .int x2), (3, .int x3)] → W p l e rm_Lo_goesIntoLoop s m [.ref (ad 11), .int a0, .int a1].toArray below meth c H locs 0 0 Q (F0 m 39 ls [.int y0]) := by
        intro x1 x2 x3 y0 H locs ls h hP hD hS hl
        unfold r_Lo_goesIntoLoop_j39 at h
        refine lv_istore (lv' := [(4, .int y0), (0, .ref (ad 11)), (1, .int x1), (2, .int x2), (3, .int x3)]) hx hb d_Lo_goesIntoLoop_39 hl (by decide) rfl (fun ls hl => ?_)
        refine lv_iload hx hb d_Lo_goesIntoLoop_41 (lv_at hl 0 rfl) ?_
        refine lv_if_eq (tgt := 62) hx hb d_Lo_goesIntoLoop_43 (by decide) (fun c1 => ?_) (fun c1 => ?_)
        · rw [if_pos c1] at h
          refine lv_iinc (v := (x3 + 1)) (lv' := [(3, .int (x3 + 1)), (4, .int y0), (0, .ref (ad 11)), (1, .int x1), (2, .int x2)]) hx hb d_Lo_goesIntoLoop_62 hl (k := 4) rfl rfl (by decide) rfl (fun ls hl => ?_)
          refine lv_goto (tgt := 2) hx hb d_Lo_goesIntoLoop_65 (by decide) ?_
          exact ih2 _ _ _ _ _ _ h hP hD hS (lv_sub hl [2, 3, 4, 0] rfl)
        · rw [if_neg c1] at h
          refine lv_aload_n hx hb d_Lo_goesIntoLoop_46 rfl (lv_at hl 1 rfl) ?_
          refine lv_iload_n hx hb d_Lo_goesIntoLoop_47 rfl (lv_at hl 2 rfl) ?_
          refine lv_aload_n hx hb d_Lo_goesIntoLoop_48 rfl (lv_at hl 1 rfl) ?_
          refine rd_Lo_nexts hx hb hts hown hK hP lk_95 d_Lo_goesIntoLoop_49 ?_
          refine lv_iload_n hx hb d_Lo_goesIntoLoop_52 rfl (lv_at hl 4 rfl) ?_
          obtain ⟨hi2, v3, ev3, h⟩ := gr_some h
          refine ld_Lo_nexts hx hb hK hP hi2 ev3 d_Lo_goesIntoLoop_53 ?_
          obtain ⟨q4, hq4, h⟩ := Option.bind_eq_some_iff.mp h
          refine k_I (k_runV ⟨hx, hb, hml, hown, hts⟩ (c_Lo_isIn rfl hq4) ok_Lo_isIn is_Lo_isIn lk_439 rfl rfl ⟨by decide, by decide⟩ hP hK hD hS hA hz (ci := 3) (q0 := 11) rfl rfl ob_Lo rfl hl.1 rfl (Nat.le_of_ble_eq_true rfl) d_Lo_goesIntoLoop_54 ⟨Nat.zero_le _, Nat.zero_le _⟩) hD hS hA (fun H locs hP hD hS => ?_)
          refine lv_if_ne (tgt := 62) hx hb d_Lo_goesIntoLoop_57 (by decide) (fun c5 => ?_) (fun c5 => ?_)
          · rw [if_neg c5] at h
            refine lv_iinc (v := (x3 + 1)) (lv' := [(3, .int (x3 + 1)), (4, .int y0), (0, .ref (ad 11)), (1, .int x1), (2, .int x2)]) hx hb d_Lo_goesIntoLoop_62 hl (k := 4) rfl rfl (by decide) rfl (fun ls hl => ?_)
            refine lv_goto (tgt := 2) hx hb d_Lo_goesIntoLoop_65 (by decide) ?_
            exact ih2 _ _ _ _ _ _ h hP hD hS (lv_sub hl [2, 3, 4, 0] rfl)
          · rw [if_pos c5] at h
            refine lv_iconst (v := 1) hx hb d_Lo_goesIntoLoop_60 (by decide) ?_
            cases h
            subst hQ
            exact k_zret hx hb hr hlk (Or.inr rfl) hP hK hD hS d_Lo_goesIntoLoop_61
      have J34 : ∀ (x1 : Int32) (x2 : Int32) (x3 : Int32) (H : Heap) (locs : List Loc) (ls : Array Slot), r_Lo_goesIntoLoop_j34 n ko lo (r_Lo_goesIntoLoop_l2 n ko lo f2) x1 x2 x3 = some r9 → va_P D clX (wX cI cL ad ma ko sh lo de wa me ru) H → va_D (va_A ws0 sz) (wX cI cL ad ma ko sh lo de wa me ru) → va_S (va_A ws0 sz) s.heap H locs → lv_has ls 5 [(0, .ref (ad 11)), (1, .int x1), (2, .int x2), (3, .int x3)] → W p l e rm_Lo_goesIntoLoop s m [.ref (ad 11), .int a0, .int a1].toArray below meth c H locs 0 0 Q (F0 m 34 ls []) := by
        intro x1 x2 x3 H locs ls h hP hD hS hl
        unfold r_Lo_goesIntoLoop_j34 at h
        refine lv_iconst (v := 1) hx hb d_Lo_goesIntoLoop_34 (by decide) ?_
        refine lv_goto (tgt := 39) hx hb d_Lo_goesIntoLoop_35 (by decide) ?_
        exact J39 _ _ _ _ _ _ _ h hP hD hS (lv_sub hl [0, 1, 2, 3] rfl)
      intro x1 x2 x3 H locs ls h hP hD hS hl
      rw [r_Lo_goesIntoLoop_l2] at h
      refine lv_iload_n hx hb d_Lo_goesIntoLoop_2 rfl (lv_at hl 3 rfl) ?_
      refine lv_aload_n hx hb d_Lo_goesIntoLoop_3 rfl (lv_at hl 0 rfl) ?_
      refine rd_Lo_loops hx hb hts hown hK hP lk_96 (v := (lo_loops lo)) rfl d_Lo_goesIntoLoop_4 ?_
      refine lv_icmp_ge (tgt := 68) hx hb d_Lo_goesIntoLoop_7 (by decide) (fun c6 => ?_) (fun c6 => ?_)
      · rw [if_pos c6] at h
        refine lv_iconst (v := 0) hx hb d_Lo_goesIntoLoop_68 (by decide) ?_
        cases h
        subst hQ
        exact k_zret hx hb hr hlk (Or.inl rfl) hP hK hD hS d_Lo_goesIntoLoop_69
      · rw [if_neg c6] at h
        refine lv_iload_n hx hb d_Lo_goesIntoLoop_10 rfl (lv_at hl 2 rfl) ?_
        refine lv_aload_n hx hb d_Lo_goesIntoLoop_11 rfl (lv_at hl 0 rfl) ?_
        refine rd_Lo_nexts hx hb hts hown hK hP lk_95 d_Lo_goesIntoLoop_12 ?_
        refine lv_iload_n hx hb d_Lo_goesIntoLoop_15 rfl (lv_at hl 3 rfl) ?_
        obtain ⟨hi7, v8, ev8, h⟩ := gr_some h
        refine ld_Lo_nexts hx hb hK hP hi7 ev8 d_Lo_goesIntoLoop_16 ?_
        refine lv_icmp_eq (tgt := 34) hx hb d_Lo_goesIntoLoop_17 (by decide) (fun c9 => ?_) (fun c9 => ?_)
        · rw [if_pos c9] at h
          exact J34 _ _ _ _ _ _ h hP hD hS (lv_sub hl [0, 1, 2, 3] rfl)
        · rw [if_neg c9] at h
          refine lv_aload_n hx hb d_Lo_goesIntoLoop_20 rfl (lv_at hl 0 rfl) ?_
          refine lv_iload_n hx hb d_Lo_goesIntoLoop_21 rfl (lv_at hl 2 rfl) ?_
          refine lv_aload_n hx hb d_Lo_goesIntoLoop_22 rfl (lv_at hl 0 rfl) ?_
          refine rd_Lo_nexts hx hb hts hown hK hP lk_95 d_Lo_goesIntoLoop_23 ?_
          refine lv_iload_n hx hb d_Lo_goesIntoLoop_26 rfl (lv_at hl 3 rfl) ?_
          obtain ⟨hi10, v11, ev11, h⟩ := gr_some h
          refine ld_Lo_nexts hx hb hK hP hi10 ev11 d_Lo_goesIntoLoop_27 ?_
          obtain ⟨q12, hq12, h⟩ := Option.bind_eq_some_iff.mp h
          refine k_I (k_runV ⟨hx, hb, hml, hown, hts⟩ (c_Lo_isIn rfl hq12) ok_Lo_isIn is_Lo_isIn lk_439 rfl rfl ⟨by decide, by decide⟩ hP hK hD hS hA hz (ci := 3) (q0 := 11) rfl rfl ob_Lo rfl hl.1 rfl (Nat.le_of_ble_eq_true rfl) d_Lo_goesIntoLoop_28 ⟨Nat.zero_le _, Nat.zero_le _⟩) hD hS hA (fun H locs hP hD hS => ?_)
          refine lv_if_eq (tgt := 38) hx hb d_Lo_goesIntoLoop_31 (by decide) (fun c13 => ?_) (fun c13 => ?_)
          · rw [if_pos c13] at h
            refine lv_iconst (v := 0) hx hb d_Lo_goesIntoLoop_38 (by decide) ?_
            exact J39 _ _ _ _ _ _ _ h hP hD hS (lv_sub hl [0, 1, 2, 3] rfl)
          · rw [if_neg c13] at h
            exact J34 _ _ _ _ _ _ h hP hD hS (lv_sub hl [0, 1, 2, 3] rfl)
  unfold r_Lo_goesIntoLoop at h
  refine lv_iconst (v := 0) hx hb d_Lo_goesIntoLoop_0 (by decide) ?_
  refine lv_istore_n (lv' := [(3, .int (0 : Int32)), (0, .ref (ad 11)), (1, .int a0), (2, .int a1)]) hx hb d_Lo_goesIntoLoop_1 rfl hl (by decide) rfl (fun ls hl => ?_)
  exact L2 n _ _ _ _ _ _ h hP hD hS (lv_sub hl [1, 2, 3, 0] rfl)
theorem d_Lo_isWrongBack_0 : decode b_Lo_isWrongBack 0 = .ok (.aload_n 0, 1) := by decide +kernel
theorem d_Lo_isWrongBack_1 : decode b_Lo_isWrongBack 1 = .ok (.getfield 15, 3) := by decide +kernel
theorem d_Lo_isWrongBack_4 : decode b_Lo_isWrongBack 4 = .ok (.aload_n 0, 1) := by decide +kernel
theorem d_Lo_isWrongBack_5 : decode b_Lo_isWrongBack 5 = .ok (.getfield 19, 3) := by decide +kernel
theorem d_Lo_isWrongBack_8 : decode b_Lo_isWrongBack 8 = .ok (.iload_n 1, 1) := by decide +kernel
theorem d_Lo_isWrongBack_9 : decode b_Lo_isWrongBack 9 = .ok (.invokevirtual 52, 3) := by decide +kernel
theorem d_Lo_isWrongBack_12 : decode b_Lo_isWrongBack 12 = .ok (.istore_n 2, 1) := by decide +kernel
theorem d_Lo_isWrongBack_13 : decode b_Lo_isWrongBack 13 = .ok (.aload_n 0, 1) := by decide +kernel
theorem d_Lo_isWrongBack_14 : decode b_Lo_isWrongBack 14 = .ok (.getfield 15, 3) := by decide +kernel
theorem d_Lo_isWrongBack_17 : decode b_Lo_isWrongBack 17 = .ok (.aload_n 0, 1) := by decide +kernel
theorem d_Lo_isWrongBack_18 : decode b_Lo_isWrongBack 18 = .ok (.getfield 19, 3) := by decide +kernel
theorem d_Lo_isWrongBack_21 : decode b_Lo_isWrongBack 21 = .ok (.iload_n 2, 1) := by decide +kernel
theorem d_Lo_isWrongBack_22 : decode b_Lo_isWrongBack 22 = .ok (.invokevirtual 39, 3) := by decide +kernel
theorem d_Lo_isWrongBack_25 : decode b_Lo_isWrongBack 25 = .ok (.bipush 13, 2) := by decide +kernel
theorem d_Lo_isWrongBack_27 : decode b_Lo_isWrongBack 27 = .ok (.if_icmp .ne 21, 3) := by decide +kernel
theorem d_Lo_isWrongBack_30 : decode b_Lo_isWrongBack 30 = .ok (.aload_n 0, 1) := by decide +kernel
theorem d_Lo_isWrongBack_31 : decode b_Lo_isWrongBack 31 = .ok (.getfield 15, 3) := by decide +kernel
theorem d_Lo_isWrongBack_34 : decode b_Lo_isWrongBack 34 = .ok (.aload_n 0, 1) := by decide +kernel
theorem d_Lo_isWrongBack_35 : decode b_Lo_isWrongBack 35 = .ok (.getfield 19, 3) := by decide +kernel
theorem d_Lo_isWrongBack_38 : decode b_Lo_isWrongBack 38 = .ok (.iload_n 2, 1) := by decide +kernel
theorem d_Lo_isWrongBack_39 : decode b_Lo_isWrongBack 39 = .ok (.invokevirtual 62, 3) := by decide +kernel
theorem d_Lo_isWrongBack_42 : decode b_Lo_isWrongBack 42 = .ok (.iload_n 1, 1) := by decide +kernel
theorem d_Lo_isWrongBack_43 : decode b_Lo_isWrongBack 43 = .ok (.iconst 1, 1) := by decide +kernel
theorem d_Lo_isWrongBack_44 : decode b_Lo_isWrongBack 44 = .ok (.iadd, 1) := by decide +kernel
theorem d_Lo_isWrongBack_45 : decode b_Lo_isWrongBack 45 = .ok (.if_icmp .eq 7, 3) := by decide +kernel
theorem d_Lo_isWrongBack_48 : decode b_Lo_isWrongBack 48 = .ok (.iconst 1, 1) := by decide +kernel
theorem d_Lo_isWrongBack_49 : decode b_Lo_isWrongBack 49 = .ok (.goto 4, 3) := by decide +kernel
theorem d_Lo_isWrongBack_52 : decode b_Lo_isWrongBack 52 = .ok (.iconst 0, 1) := by decide +kernel
theorem d_Lo_isWrongBack_53 : decode b_Lo_isWrongBack 53 = .ok (.ireturn, 1) := by decide +kernel
def r_Lo_isWrongBack (n : Nat) (ko : T_ko) (lo : T_lo) (a0 : Int32) : Option (Int32) := (r_Co_aAt n ko (lo_unit lo) a0).bind (fun q1 => (r_Co_numberAt n ko (lo_unit lo) q1).bind (fun q2 => if q2 = (13 : Int32) then (r_Co_bAt n ko (lo_unit lo) q1).bind (fun q4 => if q4 = (a0 + (1 : Int32)) then some ((0 : Int32)) else some ((1 : Int32))) else some ((1 : Int32))))
def rm_Lo_isWrongBack : Jvm.Room := { frames := 2, cells := 0, slots := 0, locals := 46 }
set_option maxHeartbeats 4000000 in
set_option maxRecDepth 100000 in
theorem c_Lo_isWrongBack {l : Launch} {D : va_G} {cI cL : ClassId} {ad : Nat → Nat} {ma : T_ma} {ko : T_ko} {sh : T_sh} {lo : T_lo} {de : T_de} {wa : T_wa} {me : T_me} {ru : T_ru} {ws0 : va_W} {sz n : Nat} {a0 : Int32} {r9 : Int32} (hw : ws0 = (wX cI cL ad ma ko sh lo de wa me ru)) (h : r_Lo_isWrongBack n ko lo a0 = some r9) : Met l y_Lo_isWrongBack (Cond.code y_Lo_isWrongBack b_Lo_isWrongBack 3 (some .boolean) :: TB) rm_Lo_isWrongBack (PreW D clX (tyX cI cL) ws0 [.ref (ad 11), .int a0] sz) (PstI D clX (tyX cI cL) ws0 (wX cI cL ad ma ko sh lo de wa me ru) sz r9) 0 0 (va_A ws0 sz) := by
  refine k_met (by decide) (Nat.le_of_ble_eq_true rfl) ?_
  intro p e s m below meth c ls hx hb hr hml hts hown hlk hnm hsz hP hK hD hA hz hl
  have hP : va_P D clX (wX cI cL ad ma ko sh lo de wa me ru) s.heap := by rw [← hw]; exact hP
  have hD : va_D (va_A ws0 sz) (wX cI cL ad ma ko sh lo de wa me ru) := by rw [← hw]; exact hD
  have hS : va_S (va_A ws0 sz) s.heap s.heap [] := va_S.rf
  have hl : lv_has ls 3 [(0, .ref (ad 11)), (1, .int a0)] := hl
  generalize hQ : MQ below (PstI D clX (tyX cI cL) ws0 (wX cI cL ad ma ko sh lo de wa me ru) sz r9) [.ref (ad 11), .int a0].toArray s 0 0 (va_A ws0 sz) = Q
  unfold r_Lo_isWrongBack at h
  refine lv_aload_n hx hb d_Lo_isWrongBack_0 rfl (lv_at hl 0 rfl) ?_
  refine rd_Lo_code hx hb hts hown hK hP lk_94 d_Lo_isWrongBack_1 ?_
  refine lv_aload_n hx hb d_Lo_isWrongBack_4 rfl (lv_at hl 0 rfl) ?_
  refine rd_Lo_unit hx hb hts hown hK hP lk_97 (v := (lo_unit lo)) rfl d_Lo_isWrongBack_5 ?_
  refine lv_iload_n hx hb d_Lo_isWrongBack_8 rfl (lv_at hl 1 rfl) ?_
  obtain ⟨q1, hq1, h⟩ := Option.bind_eq_some_iff.mp h
  refine k_I (k_runVN ⟨hx, hb, hml, hown, hts⟩ (c_Co_aAt rfl hq1) ok_Co_aAt is_Co_aAt lk_438 rfl rfl ⟨by decide, by decide⟩ hP hK hD hS hA hz (ci := 1) (q0 := 1) rfl rfl ob_Co rfl hl.1 rfl (Nat.le_of_ble_eq_true rfl) d_Lo_isWrongBack_9 ⟨Nat.zero_le _, Nat.zero_le _⟩) hD hS hA (fun H locs hP hD hS => ?_)
  refine lv_istore_n (lv' := [(2, .int q1), (0, .ref (ad 11)), (1, .int a0)]) hx hb d_Lo_isWrongBack_12 rfl hl (by decide) rfl (fun ls hl => ?_)
  refine lv_aload_n hx hb d_Lo_isWrongBack_13 rfl (lv_at hl 1 rfl) ?_
  refine rd_Lo_code hx hb hts hown hK hP lk_94 d_Lo_isWrongBack_14 ?_
  refine lv_aload_n hx hb d_Lo_isWrongBack_17 rfl (lv_at hl 1 rfl) ?_
  refine rd_Lo_unit hx hb hts hown hK hP lk_97 (v := (lo_unit lo)) rfl d_Lo_isWrongBack_18 ?_
  refine lv_iload_n hx hb d_Lo_isWrongBack_21 rfl (lv_at hl 0 rfl) ?_
  obtain ⟨q2, hq2, h⟩ := Option.bind_eq_some_iff.mp h
  refine k_I (k_runVN ⟨hx, hb, hml, hown, hts⟩ (c_Co_numberAt rfl hq2) ok_Co_numberAt is_Co_numberAt lk_429 rfl rfl ⟨by decide, by decide⟩ hP hK hD hS hA hz (ci := 1) (q0 := 1) rfl rfl ob_Co rfl hl.1 rfl (Nat.le_of_ble_eq_true rfl) d_Lo_isWrongBack_22 ⟨Nat.zero_le _, Nat.zero_le _⟩) hD hS hA (fun H locs hP hD hS => ?_)
  refine lv_bipush (v := 13) hx hb d_Lo_isWrongBack_25 (by decide) ?_
  refine lv_icmp_ne (tgt := 48) hx hb d_Lo_isWrongBack_27 (by decide) (fun c3 => ?_) (fun c3 => ?_)
  · rw [if_neg c3] at h
    refine lv_iconst (v := 1) hx hb d_Lo_isWrongBack_48 (by decide) ?_
    refine lv_goto (tgt := 53) hx hb d_Lo_isWrongBack_49 (by decide) ?_
    cases h
    subst hQ
    exact k_zret hx hb hr hlk (Or.inr rfl) hP hK hD hS d_Lo_isWrongBack_53
  · rw [if_pos c3] at h
    refine lv_aload_n hx hb d_Lo_isWrongBack_30 rfl (lv_at hl 1 rfl) ?_
    refine rd_Lo_code hx hb hts hown hK hP lk_94 d_Lo_isWrongBack_31 ?_
    refine lv_aload_n hx hb d_Lo_isWrongBack_34 rfl (lv_at hl 1 rfl) ?_
    refine rd_Lo_unit hx hb hts hown hK hP lk_97 (v := (lo_unit lo)) rfl d_Lo_isWrongBack_35 ?_
    refine lv_iload_n hx hb d_Lo_isWrongBack_38 rfl (lv_at hl 0 rfl) ?_
    obtain ⟨q4, hq4, h⟩ := Option.bind_eq_some_iff.mp h
    refine k_I (k_runVN ⟨hx, hb, hml, hown, hts⟩ (c_Co_bAt rfl hq4) ok_Co_bAt is_Co_bAt lk_443 rfl rfl ⟨by decide, by decide⟩ hP hK hD hS hA hz (ci := 1) (q0 := 1) rfl rfl ob_Co rfl hl.1 rfl (Nat.le_of_ble_eq_true rfl) d_Lo_isWrongBack_39 ⟨Nat.zero_le _, Nat.zero_le _⟩) hD hS hA (fun H locs hP hD hS => ?_)
    refine lv_iload_n hx hb d_Lo_isWrongBack_42 rfl (lv_at hl 2 rfl) ?_
    refine lv_iconst (v := 1) hx hb d_Lo_isWrongBack_43 (by decide) ?_
    refine lv_iadd hx hb d_Lo_isWrongBack_44 ?_
    refine lv_icmp_eq (tgt := 52) hx hb d_Lo_isWrongBack_45 (by decide) (fun c5 => ?_) (fun c5 => ?_)
    · rw [if_pos c5] at h
      refine lv_iconst (v := 0) hx hb d_Lo_isWrongBack_52 (by decide) ?_
      cases h
      subst hQ
      exact k_zret hx hb hr hlk (Or.inl rfl) hP hK hD hS d_Lo_isWrongBack_53
    · rw [if_neg c5] at h
      refine lv_iconst (v := 1) hx hb d_Lo_isWrongBack_48 (by decide) ?_
      refine lv_goto (tgt := 53) hx hb d_Lo_isWrongBack_49 (by decide) ?_
      cases h
      subst hQ
      exact k_zret hx hb hr hlk (Or.inr rfl) hP hK hD hS d_Lo_isWrongBack_53
theorem d_Lo_isWrongNext_0 : decode b_Lo_isWrongNext 0 = .ok (.aload_n 0, 1) := by decide +kernel
theorem d_Lo_isWrongNext_1 : decode b_Lo_isWrongNext 1 = .ok (.getfield 15, 3) := by decide +kernel
theorem d_Lo_isWrongNext_4 : decode b_Lo_isWrongNext 4 = .ok (.aload_n 0, 1) := by decide +kernel
theorem d_Lo_isWrongNext_5 : decode b_Lo_isWrongNext 5 = .ok (.getfield 19, 3) := by decide +kernel
theorem d_Lo_isWrongNext_8 : decode b_Lo_isWrongNext 8 = .ok (.iload_n 1, 1) := by decide +kernel
theorem d_Lo_isWrongNext_9 : decode b_Lo_isWrongNext 9 = .ok (.iconst 1, 1) := by decide +kernel
theorem d_Lo_isWrongNext_10 : decode b_Lo_isWrongNext 10 = .ok (.isub, 1) := by decide +kernel
theorem d_Lo_isWrongNext_11 : decode b_Lo_isWrongNext 11 = .ok (.invokevirtual 39, 3) := by decide +kernel
theorem d_Lo_isWrongNext_14 : decode b_Lo_isWrongNext 14 = .ok (.bipush 12, 2) := by decide +kernel
theorem d_Lo_isWrongNext_16 : decode b_Lo_isWrongNext 16 = .ok (.if_icmp .ne 32, 3) := by decide +kernel
theorem d_Lo_isWrongNext_19 : decode b_Lo_isWrongNext 19 = .ok (.aload_n 0, 1) := by decide +kernel
theorem d_Lo_isWrongNext_20 : decode b_Lo_isWrongNext 20 = .ok (.getfield 15, 3) := by decide +kernel
theorem d_Lo_isWrongNext_23 : decode b_Lo_isWrongNext 23 = .ok (.aload_n 0, 1) := by decide +kernel
theorem d_Lo_isWrongNext_24 : decode b_Lo_isWrongNext 24 = .ok (.getfield 19, 3) := by decide +kernel
theorem d_Lo_isWrongNext_27 : decode b_Lo_isWrongNext 27 = .ok (.iload_n 1, 1) := by decide +kernel
theorem d_Lo_isWrongNext_28 : decode b_Lo_isWrongNext 28 = .ok (.iconst 1, 1) := by decide +kernel
theorem d_Lo_isWrongNext_29 : decode b_Lo_isWrongNext 29 = .ok (.isub, 1) := by decide +kernel
theorem d_Lo_isWrongNext_30 : decode b_Lo_isWrongNext 30 = .ok (.invokevirtual 52, 3) := by decide +kernel
theorem d_Lo_isWrongNext_33 : decode b_Lo_isWrongNext 33 = .ok (.aload_n 0, 1) := by decide +kernel
theorem d_Lo_isWrongNext_34 : decode b_Lo_isWrongNext 34 = .ok (.getfield 15, 3) := by decide +kernel
theorem d_Lo_isWrongNext_37 : decode b_Lo_isWrongNext 37 = .ok (.aload_n 0, 1) := by decide +kernel
theorem d_Lo_isWrongNext_38 : decode b_Lo_isWrongNext 38 = .ok (.getfield 19, 3) := by decide +kernel
theorem d_Lo_isWrongNext_41 : decode b_Lo_isWrongNext 41 = .ok (.iload_n 1, 1) := by decide +kernel
theorem d_Lo_isWrongNext_42 : decode b_Lo_isWrongNext 42 = .ok (.invokevirtual 52, 3) := by decide +kernel
theorem d_Lo_isWrongNext_45 : decode b_Lo_isWrongNext 45 = .ok (.if_icmp .eq 5, 3) := by decide +kernel
theorem d_Lo_isWrongNext_48 : decode b_Lo_isWrongNext 48 = .ok (.iconst 1, 1) := by decide +kernel
theorem d_Lo_isWrongNext_49 : decode b_Lo_isWrongNext 49 = .ok (.ireturn, 1) := by decide +kernel
theorem d_Lo_isWrongNext_50 : decode b_Lo_isWrongNext 50 = .ok (.aload_n 0, 1) := by decide +kernel
theorem d_Lo_isWrongNext_51 : decode b_Lo_isWrongNext 51 = .ok (.getfield 15, 3) := by decide +kernel
theorem d_Lo_isWrongNext_54 : decode b_Lo_isWrongNext 54 = .ok (.aload_n 0, 1) := by decide +kernel
theorem d_Lo_isWrongNext_55 : decode b_Lo_isWrongNext 55 = .ok (.getfield 19, 3) := by decide +kernel
theorem d_Lo_isWrongNext_58 : decode b_Lo_isWrongNext 58 = .ok (.iload_n 1, 1) := by decide +kernel
theorem d_Lo_isWrongNext_59 : decode b_Lo_isWrongNext 59 = .ok (.invokevirtual 62, 3) := by decide +kernel
theorem d_Lo_isWrongNext_62 : decode b_Lo_isWrongNext 62 = .ok (.iconst 1, 1) := by decide +kernel
theorem d_Lo_isWrongNext_63 : decode b_Lo_isWrongNext 63 = .ok (.isub, 1) := by decide +kernel
theorem d_Lo_isWrongNext_64 : decode b_Lo_isWrongNext 64 = .ok (.istore_n 2, 1) := by decide +kernel
theorem d_Lo_isWrongNext_65 : decode b_Lo_isWrongNext 65 = .ok (.aload_n 0, 1) := by decide +kernel
theorem d_Lo_isWrongNext_66 : decode b_Lo_isWrongNext 66 = .ok (.getfield 15, 3) := by decide +kernel
theorem d_Lo_isWrongNext_69 : decode b_Lo_isWrongNext 69 = .ok (.aload_n 0, 1) := by decide +kernel
theorem d_Lo_isWrongNext_70 : decode b_Lo_isWrongNext 70 = .ok (.getfield 19, 3) := by decide +kernel
theorem d_Lo_isWrongNext_73 : decode b_Lo_isWrongNext 73 = .ok (.iload_n 2, 1) := by decide +kernel
theorem d_Lo_isWrongNext_74 : decode b_Lo_isWrongNext 74 = .ok (.invokevirtual 39, 3) := by decide +kernel
theorem d_Lo_isWrongNext_77 : decode b_Lo_isWrongNext 77 = .ok (.bipush 14, 2) := by decide +kernel
theorem d_Lo_isWrongNext_79 : decode b_Lo_isWrongNext 79 = .ok (.if_icmp .ne 19, 3) := by decide +kernel
theorem d_Lo_isWrongNext_82 : decode b_Lo_isWrongNext 82 = .ok (.aload_n 0, 1) := by decide +kernel
theorem d_Lo_isWrongNext_83 : decode b_Lo_isWrongNext 83 = .ok (.getfield 15, 3) := by decide +kernel
theorem d_Lo_isWrongNext_86 : decode b_Lo_isWrongNext 86 = .ok (.aload_n 0, 1) := by decide +kernel
theorem d_Lo_isWrongNext_87 : decode b_Lo_isWrongNext 87 = .ok (.getfield 19, 3) := by decide +kernel
theorem d_Lo_isWrongNext_90 : decode b_Lo_isWrongNext 90 = .ok (.iload_n 2, 1) := by decide +kernel
theorem d_Lo_isWrongNext_91 : decode b_Lo_isWrongNext 91 = .ok (.invokevirtual 52, 3) := by decide +kernel
theorem d_Lo_isWrongNext_94 : decode b_Lo_isWrongNext 94 = .ok (.iload_n 1, 1) := by decide +kernel
theorem d_Lo_isWrongNext_95 : decode b_Lo_isWrongNext 95 = .ok (.if_icmp .eq 5, 3) := by decide +kernel
theorem d_Lo_isWrongNext_98 : decode b_Lo_isWrongNext 98 = .ok (.iconst 1, 1) := by decide +kernel
theorem d_Lo_isWrongNext_99 : decode b_Lo_isWrongNext 99 = .ok (.ireturn, 1) := by decide +kernel
theorem d_Lo_isWrongNext_100 : decode b_Lo_isWrongNext 100 = .ok (.iconst 0, 1) := by decide +kernel
theorem d_Lo_isWrongNext_101 : decode b_Lo_isWrongNext 101 = .ok (.istore_n 3, 1) := by decide +kernel
theorem d_Lo_isWrongNext_102 : decode b_Lo_isWrongNext 102 = .ok (.iload_n 3, 1) := by decide +kernel
theorem d_Lo_isWrongNext_103 : decode b_Lo_isWrongNext 103 = .ok (.aload_n 0, 1) := by decide +kernel
theorem d_Lo_isWrongNext_104 : decode b_Lo_isWrongNext 104 = .ok (.getfield 36, 3) := by decide +kernel
theorem d_Lo_isWrongNext_107 : decode b_Lo_isWrongNext 107 = .ok (.if_icmp .ge 39, 3) := by decide +kernel
theorem d_Lo_isWrongNext_110 : decode b_Lo_isWrongNext 110 = .ok (.aload_n 0, 1) := by decide +kernel
theorem d_Lo_isWrongNext_111 : decode b_Lo_isWrongNext 111 = .ok (.iload_n 1, 1) := by decide +kernel
theorem d_Lo_isWrongNext_112 : decode b_Lo_isWrongNext 112 = .ok (.aload_n 0, 1) := by decide +kernel
theorem d_Lo_isWrongNext_113 : decode b_Lo_isWrongNext 113 = .ok (.getfield 9, 3) := by decide +kernel
theorem d_Lo_isWrongNext_116 : decode b_Lo_isWrongNext 116 = .ok (.iload_n 3, 1) := by decide +kernel
theorem d_Lo_isWrongNext_117 : decode b_Lo_isWrongNext 117 = .ok (.iaload, 1) := by decide +kernel
theorem d_Lo_isWrongNext_118 : decode b_Lo_isWrongNext 118 = .ok (.invokevirtual 59, 3) := by decide +kernel
theorem d_Lo_isWrongNext_121 : decode b_Lo_isWrongNext 121 = .ok (.ifCond .eq 19, 3) := by decide +kernel
theorem d_Lo_isWrongNext_124 : decode b_Lo_isWrongNext 124 = .ok (.aload_n 0, 1) := by decide +kernel
theorem d_Lo_isWrongNext_125 : decode b_Lo_isWrongNext 125 = .ok (.iload_n 2, 1) := by decide +kernel
theorem d_Lo_isWrongNext_126 : decode b_Lo_isWrongNext 126 = .ok (.aload_n 0, 1) := by decide +kernel
theorem d_Lo_isWrongNext_127 : decode b_Lo_isWrongNext 127 = .ok (.getfield 9, 3) := by decide +kernel
theorem d_Lo_isWrongNext_130 : decode b_Lo_isWrongNext 130 = .ok (.iload_n 3, 1) := by decide +kernel
theorem d_Lo_isWrongNext_131 : decode b_Lo_isWrongNext 131 = .ok (.iaload, 1) := by decide +kernel
theorem d_Lo_isWrongNext_132 : decode b_Lo_isWrongNext 132 = .ok (.invokevirtual 59, 3) := by decide +kernel
theorem d_Lo_isWrongNext_135 : decode b_Lo_isWrongNext 135 = .ok (.ifCond .ne 5, 3) := by decide +kernel
theorem d_Lo_isWrongNext_138 : decode b_Lo_isWrongNext 138 = .ok (.iconst 1, 1) := by decide +kernel
theorem d_Lo_isWrongNext_139 : decode b_Lo_isWrongNext 139 = .ok (.ireturn, 1) := by decide +kernel
theorem d_Lo_isWrongNext_140 : decode b_Lo_isWrongNext 140 = .ok (.iinc 3 1, 3) := by decide +kernel
theorem d_Lo_isWrongNext_143 : decode b_Lo_isWrongNext 143 = .ok (.goto (-41), 3) := by decide +kernel
theorem d_Lo_isWrongNext_146 : decode b_Lo_isWrongNext 146 = .ok (.iconst 0, 1) := by decide +kernel
theorem d_Lo_isWrongNext_147 : decode b_Lo_isWrongNext 147 = .ok (.ireturn, 1) := by decide +kernel
def r_Lo_isWrongNext_l102 (n : Nat) (ko : T_ko) (lo : T_lo)  : Nat → Int32 → Int32 → Int32 → Option (Int32)
  | 0, _, _, _ => none
  | f + 1, x1, x2, x3 => if (lo_loops lo) ≤ x3 then some ((0 : Int32)) else gr (lo_nexts lo) x3 256 (fun v3 => (r_Lo_isIn n ko lo x1 v3).bind (fun q4 => if q4 = 0 then (r_Lo_isWrongNext_l102 n ko lo f) x1 x2 (x3 + 1) else gr (lo_nexts lo) x3 256 (fun v7 => (r_Lo_isIn n ko lo x2 v7).bind (fun q8 => if q8 = 0 then some ((1 : Int32)) else (r_Lo_isWrongNext_l102 n ko lo f) x1 x2 (x3 + 1)))))
def r_Lo_isWrongNext (n : Nat) (ko : T_ko) (lo : T_lo) (a0 : Int32) : Option (Int32) := (r_Co_numberAt n ko (lo_unit lo) (a0 - (1 : Int32))).bind (fun q10 => if q10 = (12 : Int32) then (r_Co_aAt n ko (lo_unit lo) (a0 - (1 : Int32))).bind (fun q12 => (r_Co_aAt n ko (lo_unit lo) a0).bind (fun q13 => if q12 = q13 then (r_Co_bAt n ko (lo_unit lo) a0).bind (fun q15 => (r_Co_numberAt n ko (lo_unit lo) (q15 - (1 : Int32))).bind (fun q16 => if q16 = (14 : Int32) then (r_Co_aAt n ko (lo_unit lo) (q15 - (1 : Int32))).bind (fun q18 => if q18 = a0 then r_Lo_isWrongNext_l102 n ko lo n a0 (q15 - (1 : Int32)) (0 : Int32) else some ((1 : Int32))) else some ((1 : Int32)))) else some ((1 : Int32)))) else some ((1 : Int32)))
def rm_Lo_isWrongNext : Jvm.Room := { frames := 3, cells := 0, slots := 0, locals := 68 }
set_option maxHeartbeats 4000000 in
set_option maxRecDepth 100000 in
theorem c_Lo_isWrongNext {l : Launch} {D : va_G} {cI cL : ClassId} {ad : Nat → Nat} {ma : T_ma} {ko : T_ko} {sh : T_sh} {lo : T_lo} {de : T_de} {wa : T_wa} {me : T_me} {ru : T_ru} {ws0 : va_W} {sz n : Nat} {a0 : Int32} {r9 : Int32} (hw : ws0 = (wX cI cL ad ma ko sh lo de wa me ru)) (h : r_Lo_isWrongNext n ko lo a0 = some r9) : Met l y_Lo_isWrongNext (Cond.code y_Lo_isWrongNext b_Lo_isWrongNext 4 (some .boolean) :: TB) rm_Lo_isWrongNext (PreW D clX (tyX cI cL) ws0 [.ref (ad 11), .int a0] sz) (PstI D clX (tyX cI cL) ws0 (wX cI cL ad ma ko sh lo de wa me ru) sz r9) 0 0 (va_A ws0 sz) := by
  refine k_met (by decide) (Nat.le_of_ble_eq_true rfl) ?_
  intro p e s m below meth c ls hx hb hr hml hts hown hlk hnm hsz hP hK hD hA hz hl
  have hP : va_P D clX (wX cI cL ad ma ko sh lo de wa me ru) s.heap := by rw [← hw]; exact hP
  have hD : va_D (va_A ws0 sz) (wX cI cL ad ma ko sh lo de wa me ru) := by rw [← hw]; exact hD
  have hS : va_S (va_A ws0 sz) s.heap s.heap [] := va_S.rf
  have hl : lv_has ls 4 [(0, .ref (ad 11)), (1, .int a0)] := hl
  generalize hQ : MQ below (PstI D clX (tyX cI cL) ws0 (wX cI cL ad ma ko sh lo de wa me ru) sz r9) [.ref (ad 11), .int a0].toArray s 0 0 (va_A ws0 sz) = Q
  have L102 : ∀ (f102 : Nat), ∀ (x1 : Int32) (x2 : Int32) (x3 : Int32) (H : Heap) (locs : List Loc) (ls : Array Slot), r_Lo_isWrongNext_l102 n ko lo f102 x1 x2 x3 = some r9 → va_P D clX (wX cI cL ad ma ko sh lo de wa me ru) H → va_D (va_A ws0 sz) (wX cI cL ad ma ko sh lo de wa me ru) → va_S (va_A ws0 sz) s.heap H locs → lv_has ls 4 [(0, .ref (ad 11)), (1, .int x1), (2, .int x2), (3, .int x3)] → W p l e rm_Lo_isWrongNext s m [.ref (ad 11), .int a0].toArray below meth c H locs 0 0 Q (F0 m 102 ls []) := by
    intro f102
    induction f102 with
    | zero =>
      intro x1 x2 x3 H locs ls h hP hD hS hl
      exact absurd h (by intro h; cases h)
    | succ f102 ih102 =>
      intro x1 x2 x3 H locs ls h hP hD hS hl
      rw [r_Lo_isWrongNext_l102] at h
      refine lv_iload_n hx hb d_Lo_isWrongNext_102 rfl (lv_at hl 3 rfl) ?_
      refine lv_aload_n hx hb d_Lo_isWrongNext_103 rfl (lv_at hl 0 rfl) ?_
      refine rd_Lo_loops hx hb hts hown hK hP lk_96 (v := (lo_loops lo)) rfl d_Lo_isWrongNext_104 ?_
      refine lv_icmp_ge (tgt := 146) hx hb d_Lo_isWrongNext_107 (by decide) (fun c1 => ?_) (fun c1 => ?_)
      · rw [if_pos c1] at h
        refine lv_iconst (v := 0) hx hb d_Lo_isWrongNext_146 (by decide) ?_
        cases h
        subst hQ
        exact k_zret hx hb hr hlk (Or.inl rfl) hP hK hD hS d_Lo_isWrongNext_147
      · rw [if_neg c1] at h
        refine lv_aload_n hx hb d_Lo_isWrongNext_110 rfl (lv_at hl 0 rfl) ?_
        refine lv_iload_n hx hb d_Lo_isWrongNext_111 rfl (lv_at hl 1 rfl) ?_
        refine lv_aload_n hx hb d_Lo_isWrongNext_112 rfl (lv_at hl 0 rfl) ?_
        refine rd_Lo_nexts hx hb hts hown hK hP lk_95 d_Lo_isWrongNext_113 ?_
        refine lv_iload_n hx hb d_Lo_isWrongNext_116 rfl (lv_at hl 3 rfl) ?_
        obtain ⟨hi2, v3, ev3, h⟩ := gr_some h
        refine ld_Lo_nexts hx hb hK hP hi2 ev3 d_Lo_isWrongNext_117 ?_
        obtain ⟨q4, hq4, h⟩ := Option.bind_eq_some_iff.mp h
        refine k_I (k_runV ⟨hx, hb, hml, hown, hts⟩ (c_Lo_isIn rfl hq4) ok_Lo_isIn is_Lo_isIn lk_439 rfl rfl ⟨by decide, by decide⟩ hP hK hD hS hA hz (ci := 3) (q0 := 11) rfl rfl ob_Lo rfl hl.1 rfl (Nat.le_of_ble_eq_true rfl) d_Lo_isWrongNext_118 ⟨Nat.zero_le _, Nat.zero_le _⟩) hD hS hA (fun H locs hP hD hS => ?_)
        refine lv_if_eq (tgt := 140) hx hb d_Lo_isWrongNext_121 (by decide) (fun c5 => ?_) (fun c5 => ?_)
        · rw [if_pos c5] at h
          refine lv_iinc (v := (x3 + 1)) (lv' := [(3, .int (x3 + 1)), (0, .ref (ad 11)), (1, .int x1), (2, .int x2)]) hx hb d_Lo_isWrongNext_140 hl (k := 3) rfl rfl (by decide) rfl (fun ls hl => ?_)
          refine lv_goto (tgt := 102) hx hb d_Lo_isWrongNext_143 (by decide) ?_
          exact ih102 _ _ _ _ _ _ h hP hD hS (lv_sub hl [1, 2, 3, 0] rfl)
        · rw [if_neg c5] at h
          refine lv_aload_n hx hb d_Lo_isWrongNext_124 rfl (lv_at hl 0 rfl) ?_
          refine lv_iload_n hx hb d_Lo_isWrongNext_125 rfl (lv_at hl 2 rfl) ?_
          refine lv_aload_n hx hb d_Lo_isWrongNext_126 rfl (lv_at hl 0 rfl) ?_
          refine rd_Lo_nexts hx hb hts hown hK hP lk_95 d_Lo_isWrongNext_127 ?_
          refine lv_iload_n hx hb d_Lo_isWrongNext_130 rfl (lv_at hl 3 rfl) ?_
          obtain ⟨hi6, v7, ev7, h⟩ := gr_some h
          refine ld_Lo_nexts hx hb hK hP hi6 ev7 d_Lo_isWrongNext_131 ?_
          obtain ⟨q8, hq8, h⟩ := Option.bind_eq_some_iff.mp h
          refine k_I (k_runV ⟨hx, hb, hml, hown, hts⟩ (c_Lo_isIn rfl hq8) ok_Lo_isIn is_Lo_isIn lk_439 rfl rfl ⟨by decide, by decide⟩ hP hK hD hS hA hz (ci := 3) (q0 := 11) rfl rfl ob_Lo rfl hl.1 rfl (Nat.le_of_ble_eq_true rfl) d_Lo_isWrongNext_132 ⟨Nat.zero_le _, Nat.zero_le _⟩) hD hS hA (fun H locs hP hD hS => ?_)
          refine lv_if_ne (tgt := 140) hx hb d_Lo_isWrongNext_135 (by decide) (fun c9 => ?_) (fun c9 => ?_)
          · rw [if_neg c9] at h
            refine lv_iinc (v := (x3 + 1)) (lv' := [(3, .int (x3 + 1)), (0, .ref (ad 11)), (1, .int x1), (2, .int x2)]) hx hb d_Lo_isWrongNext_140 hl (k := 3) rfl rfl (by decide) rfl (fun ls hl => ?_)
            refine lv_goto (tgt := 102) hx hb d_Lo_isWrongNext_143 (by decide) ?_
            exact ih102 _ _ _ _ _ _ h hP hD hS (lv_sub hl [1, 2, 3, 0] rfl)
          · rw [if_pos c9] at h
            refine lv_iconst (v := 1) hx hb d_Lo_isWrongNext_138 (by decide) ?_
            cases h
            subst hQ
            exact k_zret hx hb hr hlk (Or.inr rfl) hP hK hD hS d_Lo_isWrongNext_139
  unfold r_Lo_isWrongNext at h
  refine lv_aload_n hx hb d_Lo_isWrongNext_0 rfl (lv_at hl 0 rfl) ?_
  refine rd_Lo_code hx hb hts hown hK hP lk_94 d_Lo_isWrongNext_1 ?_
  refine lv_aload_n hx hb d_Lo_isWrongNext_4 rfl (lv_at hl 0 rfl) ?_
  refine rd_Lo_unit hx hb hts hown hK hP lk_97 (v := (lo_unit lo)) rfl d_Lo_isWrongNext_5 ?_
  refine lv_iload_n hx hb d_Lo_isWrongNext_8 rfl (lv_at hl 1 rfl) ?_
  refine lv_iconst (v := 1) hx hb d_Lo_isWrongNext_9 (by decide) ?_
  refine lv_isub hx hb d_Lo_isWrongNext_10 ?_
  obtain ⟨q10, hq10, h⟩ := Option.bind_eq_some_iff.mp h
  refine k_I (k_runVN ⟨hx, hb, hml, hown, hts⟩ (c_Co_numberAt rfl hq10) ok_Co_numberAt is_Co_numberAt lk_429 rfl rfl ⟨by decide, by decide⟩ hP hK hD hS hA hz (ci := 1) (q0 := 1) rfl rfl ob_Co rfl hl.1 rfl (Nat.le_of_ble_eq_true rfl) d_Lo_isWrongNext_11 ⟨Nat.zero_le _, Nat.zero_le _⟩) hD hS hA (fun H locs hP hD hS => ?_)
  refine lv_bipush (v := 12) hx hb d_Lo_isWrongNext_14 (by decide) ?_
  refine lv_icmp_ne (tgt := 48) hx hb d_Lo_isWrongNext_16 (by decide) (fun c11 => ?_) (fun c11 => ?_)
  · rw [if_neg c11] at h
    refine lv_iconst (v := 1) hx hb d_Lo_isWrongNext_48 (by decide) ?_
    cases h
    subst hQ
    exact k_zret hx hb hr hlk (Or.inr rfl) hP hK hD hS d_Lo_isWrongNext_49
  · rw [if_pos c11] at h
    refine lv_aload_n hx hb d_Lo_isWrongNext_19 rfl (lv_at hl 0 rfl) ?_
    refine rd_Lo_code hx hb hts hown hK hP lk_94 d_Lo_isWrongNext_20 ?_
    refine lv_aload_n hx hb d_Lo_isWrongNext_23 rfl (lv_at hl 0 rfl) ?_
    refine rd_Lo_unit hx hb hts hown hK hP lk_97 (v := (lo_unit lo)) rfl d_Lo_isWrongNext_24 ?_
    refine lv_iload_n hx hb d_Lo_isWrongNext_27 rfl (lv_at hl 1 rfl) ?_
    refine lv_iconst (v := 1) hx hb d_Lo_isWrongNext_28 (by decide) ?_
    refine lv_isub hx hb d_Lo_isWrongNext_29 ?_
    obtain ⟨q12, hq12, h⟩ := Option.bind_eq_some_iff.mp h
    refine k_I (k_runVN ⟨hx, hb, hml, hown, hts⟩ (c_Co_aAt rfl hq12) ok_Co_aAt is_Co_aAt lk_438 rfl rfl ⟨by decide, by decide⟩ hP hK hD hS hA hz (ci := 1) (q0 := 1) rfl rfl ob_Co rfl hl.1 rfl (Nat.le_of_ble_eq_true rfl) d_Lo_isWrongNext_30 ⟨Nat.zero_le _, Nat.zero_le _⟩) hD hS hA (fun H locs hP hD hS => ?_)
    refine lv_aload_n hx hb d_Lo_isWrongNext_33 rfl (lv_at hl 0 rfl) ?_
    refine rd_Lo_code hx hb hts hown hK hP lk_94 d_Lo_isWrongNext_34 ?_
    refine lv_aload_n hx hb d_Lo_isWrongNext_37 rfl (lv_at hl 0 rfl) ?_
    refine rd_Lo_unit hx hb hts hown hK hP lk_97 (v := (lo_unit lo)) rfl d_Lo_isWrongNext_38 ?_
    refine lv_iload_n hx hb d_Lo_isWrongNext_41 rfl (lv_at hl 1 rfl) ?_
    obtain ⟨q13, hq13, h⟩ := Option.bind_eq_some_iff.mp h
    refine k_I (k_runVN ⟨hx, hb, hml, hown, hts⟩ (c_Co_aAt rfl hq13) ok_Co_aAt is_Co_aAt lk_438 rfl rfl ⟨by decide, by decide⟩ hP hK hD hS hA hz (ci := 1) (q0 := 1) rfl rfl ob_Co rfl hl.1 rfl (Nat.le_of_ble_eq_true rfl) d_Lo_isWrongNext_42 ⟨Nat.zero_le _, Nat.zero_le _⟩) hD hS hA (fun H locs hP hD hS => ?_)
    refine lv_icmp_eq (tgt := 50) hx hb d_Lo_isWrongNext_45 (by decide) (fun c14 => ?_) (fun c14 => ?_)
    · rw [if_pos c14] at h
      refine lv_aload_n hx hb d_Lo_isWrongNext_50 rfl (lv_at hl 0 rfl) ?_
      refine rd_Lo_code hx hb hts hown hK hP lk_94 d_Lo_isWrongNext_51 ?_
      refine lv_aload_n hx hb d_Lo_isWrongNext_54 rfl (lv_at hl 0 rfl) ?_
      refine rd_Lo_unit hx hb hts hown hK hP lk_97 (v := (lo_unit lo)) rfl d_Lo_isWrongNext_55 ?_
      refine lv_iload_n hx hb d_Lo_isWrongNext_58 rfl (lv_at hl 1 rfl) ?_
      obtain ⟨q15, hq15, h⟩ := Option.bind_eq_some_iff.mp h
      refine k_I (k_runVN ⟨hx, hb, hml, hown, hts⟩ (c_Co_bAt rfl hq15) ok_Co_bAt is_Co_bAt lk_443 rfl rfl ⟨by decide, by decide⟩ hP hK hD hS hA hz (ci := 1) (q0 := 1) rfl rfl ob_Co rfl hl.1 rfl (Nat.le_of_ble_eq_true rfl) d_Lo_isWrongNext_59 ⟨Nat.zero_le _, Nat.zero_le _⟩) hD hS hA (fun H locs hP hD hS => ?_)
      refine lv_iconst (v := 1) hx hb d_Lo_isWrongNext_62 (by decide) ?_
      refine lv_isub hx hb d_Lo_isWrongNext_63 ?_
      refine lv_istore_n (lv' := [(2, .int (q15 - (1 : Int32))), (0, .ref (ad 11)), (1, .int a0)]) hx hb d_Lo_isWrongNext_64 rfl hl (by decide) rfl (fun ls hl => ?_)
      refine lv_aload_n hx hb d_Lo_isWrongNext_65 rfl (lv_at hl 1 rfl) ?_
      refine rd_Lo_code hx hb hts hown hK hP lk_94 d_Lo_isWrongNext_66 ?_
      refine lv_aload_n hx hb d_Lo_isWrongNext_69 rfl (lv_at hl 1 rfl) ?_
      refine rd_Lo_unit hx hb hts hown hK hP lk_97 (v := (lo_unit lo)) rfl d_Lo_isWrongNext_70 ?_
      refine lv_iload_n hx hb d_Lo_isWrongNext_73 rfl (lv_at hl 0 rfl) ?_
      obtain ⟨q16, hq16, h⟩ := Option.bind_eq_some_iff.mp h
      refine k_I (k_runVN ⟨hx, hb, hml, hown, hts⟩ (c_Co_numberAt rfl hq16) ok_Co_numberAt is_Co_numberAt lk_429 rfl rfl ⟨by decide, by decide⟩ hP hK hD hS hA hz (ci := 1) (q0 := 1) rfl rfl ob_Co rfl hl.1 rfl (Nat.le_of_ble_eq_true rfl) d_Lo_isWrongNext_74 ⟨Nat.zero_le _, Nat.zero_le _⟩) hD hS hA (fun H locs hP hD hS => ?_)
      refine lv_bipush (v := 14) hx hb d_Lo_isWrongNext_77 (by decide) ?_
      refine lv_icmp_ne (tgt := 98) hx hb d_Lo_isWrongNext_79 (by decide) (fun c17 => ?_) (fun c17 => ?_)
      · rw [if_neg c17] at h
        refine lv_iconst (v := 1) hx hb d_Lo_isWrongNext_98 (by decide) ?_
        cases h
        subst hQ
        exact k_zret hx hb hr hlk (Or.inr rfl) hP hK hD hS d_Lo_isWrongNext_99
      · rw [if_pos c17] at h
        refine lv_aload_n hx hb d_Lo_isWrongNext_82 rfl (lv_at hl 1 rfl) ?_
        refine rd_Lo_code hx hb hts hown hK hP lk_94 d_Lo_isWrongNext_83 ?_
        refine lv_aload_n hx hb d_Lo_isWrongNext_86 rfl (lv_at hl 1 rfl) ?_
        refine rd_Lo_unit hx hb hts hown hK hP lk_97 (v := (lo_unit lo)) rfl d_Lo_isWrongNext_87 ?_
        refine lv_iload_n hx hb d_Lo_isWrongNext_90 rfl (lv_at hl 0 rfl) ?_
        obtain ⟨q18, hq18, h⟩ := Option.bind_eq_some_iff.mp h
        refine k_I (k_runVN ⟨hx, hb, hml, hown, hts⟩ (c_Co_aAt rfl hq18) ok_Co_aAt is_Co_aAt lk_438 rfl rfl ⟨by decide, by decide⟩ hP hK hD hS hA hz (ci := 1) (q0 := 1) rfl rfl ob_Co rfl hl.1 rfl (Nat.le_of_ble_eq_true rfl) d_Lo_isWrongNext_91 ⟨Nat.zero_le _, Nat.zero_le _⟩) hD hS hA (fun H locs hP hD hS => ?_)
        refine lv_iload_n hx hb d_Lo_isWrongNext_94 rfl (lv_at hl 2 rfl) ?_
        refine lv_icmp_eq (tgt := 100) hx hb d_Lo_isWrongNext_95 (by decide) (fun c19 => ?_) (fun c19 => ?_)
        · rw [if_pos c19] at h
          refine lv_iconst (v := 0) hx hb d_Lo_isWrongNext_100 (by decide) ?_
          refine lv_istore_n (lv' := [(3, .int (0 : Int32)), (2, .int (q15 - (1 : Int32))), (0, .ref (ad 11)), (1, .int a0)]) hx hb d_Lo_isWrongNext_101 rfl hl (by decide) rfl (fun ls hl => ?_)
          exact L102 n _ _ _ _ _ _ h hP hD hS (lv_sub hl [2, 3, 1, 0] rfl)
        · rw [if_neg c19] at h
          refine lv_iconst (v := 1) hx hb d_Lo_isWrongNext_98 (by decide) ?_
          cases h
          subst hQ
          exact k_zret hx hb hr hlk (Or.inr rfl) hP hK hD hS d_Lo_isWrongNext_99
    · rw [if_neg c14] at h
      refine lv_iconst (v := 1) hx hb d_Lo_isWrongNext_48 (by decide) ?_
      cases h
      subst hQ
      exact k_zret hx hb hr hlk (Or.inr rfl) hP hK hD hS d_Lo_isWrongNext_49
theorem d_Lo_isWrongCount_0 : decode b_Lo_isWrongCount 0 = .ok (.aload_n 0, 1) := by decide +kernel
theorem d_Lo_isWrongCount_1 : decode b_Lo_isWrongCount 1 = .ok (.getfield 15, 3) := by decide +kernel
theorem d_Lo_isWrongCount_4 : decode b_Lo_isWrongCount 4 = .ok (.aload_n 0, 1) := by decide +kernel
theorem d_Lo_isWrongCount_5 : decode b_Lo_isWrongCount 5 = .ok (.getfield 19, 3) := by decide +kernel
theorem d_Lo_isWrongCount_8 : decode b_Lo_isWrongCount 8 = .ok (.iload_n 1, 1) := by decide +kernel
theorem d_Lo_isWrongCount_9 : decode b_Lo_isWrongCount 9 = .ok (.invokevirtual 52, 3) := by decide +kernel
theorem d_Lo_isWrongCount_12 : decode b_Lo_isWrongCount 12 = .ok (.istore_n 2, 1) := by decide +kernel
theorem d_Lo_isWrongCount_13 : decode b_Lo_isWrongCount 13 = .ok (.aload_n 0, 1) := by decide +kernel
theorem d_Lo_isWrongCount_14 : decode b_Lo_isWrongCount 14 = .ok (.getfield 15, 3) := by decide +kernel
theorem d_Lo_isWrongCount_17 : decode b_Lo_isWrongCount 17 = .ok (.aload_n 0, 1) := by decide +kernel
theorem d_Lo_isWrongCount_18 : decode b_Lo_isWrongCount 18 = .ok (.getfield 19, 3) := by decide +kernel
theorem d_Lo_isWrongCount_21 : decode b_Lo_isWrongCount 21 = .ok (.iload_n 1, 1) := by decide +kernel
theorem d_Lo_isWrongCount_22 : decode b_Lo_isWrongCount 22 = .ok (.iconst 1, 1) := by decide +kernel
theorem d_Lo_isWrongCount_23 : decode b_Lo_isWrongCount 23 = .ok (.iadd, 1) := by decide +kernel
theorem d_Lo_isWrongCount_24 : decode b_Lo_isWrongCount 24 = .ok (.invokevirtual 39, 3) := by decide +kernel
theorem d_Lo_isWrongCount_27 : decode b_Lo_isWrongCount 27 = .ok (.bipush 13, 2) := by decide +kernel
theorem d_Lo_isWrongCount_29 : decode b_Lo_isWrongCount 29 = .ok (.if_icmp .ne 21, 3) := by decide +kernel
theorem d_Lo_isWrongCount_32 : decode b_Lo_isWrongCount 32 = .ok (.aload_n 0, 1) := by decide +kernel
theorem d_Lo_isWrongCount_33 : decode b_Lo_isWrongCount 33 = .ok (.getfield 15, 3) := by decide +kernel
theorem d_Lo_isWrongCount_36 : decode b_Lo_isWrongCount 36 = .ok (.aload_n 0, 1) := by decide +kernel
theorem d_Lo_isWrongCount_37 : decode b_Lo_isWrongCount 37 = .ok (.getfield 19, 3) := by decide +kernel
theorem d_Lo_isWrongCount_40 : decode b_Lo_isWrongCount 40 = .ok (.iload_n 1, 1) := by decide +kernel
theorem d_Lo_isWrongCount_41 : decode b_Lo_isWrongCount 41 = .ok (.iconst 1, 1) := by decide +kernel
theorem d_Lo_isWrongCount_42 : decode b_Lo_isWrongCount 42 = .ok (.iadd, 1) := by decide +kernel
theorem d_Lo_isWrongCount_43 : decode b_Lo_isWrongCount 43 = .ok (.invokevirtual 52, 3) := by decide +kernel
theorem d_Lo_isWrongCount_46 : decode b_Lo_isWrongCount 46 = .ok (.iload_n 2, 1) := by decide +kernel
theorem d_Lo_isWrongCount_47 : decode b_Lo_isWrongCount 47 = .ok (.if_icmp .eq 5, 3) := by decide +kernel
theorem d_Lo_isWrongCount_50 : decode b_Lo_isWrongCount 50 = .ok (.iconst 1, 1) := by decide +kernel
theorem d_Lo_isWrongCount_51 : decode b_Lo_isWrongCount 51 = .ok (.ireturn, 1) := by decide +kernel
theorem d_Lo_isWrongCount_52 : decode b_Lo_isWrongCount 52 = .ok (.iconst 0, 1) := by decide +kernel
theorem d_Lo_isWrongCount_53 : decode b_Lo_isWrongCount 53 = .ok (.istore_n 3, 1) := by decide +kernel
theorem d_Lo_isWrongCount_54 : decode b_Lo_isWrongCount 54 = .ok (.iload_n 3, 1) := by decide +kernel
theorem d_Lo_isWrongCount_55 : decode b_Lo_isWrongCount 55 = .ok (.aload_n 0, 1) := by decide +kernel
theorem d_Lo_isWrongCount_56 : decode b_Lo_isWrongCount 56 = .ok (.getfield 36, 3) := by decide +kernel
theorem d_Lo_isWrongCount_59 : decode b_Lo_isWrongCount 59 = .ok (.if_icmp .ge 46, 3) := by decide +kernel
theorem d_Lo_isWrongCount_62 : decode b_Lo_isWrongCount 62 = .ok (.aload_n 0, 1) := by decide +kernel
theorem d_Lo_isWrongCount_63 : decode b_Lo_isWrongCount 63 = .ok (.getfield 15, 3) := by decide +kernel
theorem d_Lo_isWrongCount_66 : decode b_Lo_isWrongCount 66 = .ok (.aload_n 0, 1) := by decide +kernel
theorem d_Lo_isWrongCount_67 : decode b_Lo_isWrongCount 67 = .ok (.getfield 19, 3) := by decide +kernel
theorem d_Lo_isWrongCount_70 : decode b_Lo_isWrongCount 70 = .ok (.aload_n 0, 1) := by decide +kernel
theorem d_Lo_isWrongCount_71 : decode b_Lo_isWrongCount 71 = .ok (.getfield 9, 3) := by decide +kernel
theorem d_Lo_isWrongCount_74 : decode b_Lo_isWrongCount 74 = .ok (.iload_n 3, 1) := by decide +kernel
theorem d_Lo_isWrongCount_75 : decode b_Lo_isWrongCount 75 = .ok (.iaload, 1) := by decide +kernel
theorem d_Lo_isWrongCount_76 : decode b_Lo_isWrongCount 76 = .ok (.invokevirtual 52, 3) := by decide +kernel
theorem d_Lo_isWrongCount_79 : decode b_Lo_isWrongCount 79 = .ok (.iload_n 2, 1) := by decide +kernel
theorem d_Lo_isWrongCount_80 : decode b_Lo_isWrongCount 80 = .ok (.if_icmp .ne 19, 3) := by decide +kernel
theorem d_Lo_isWrongCount_83 : decode b_Lo_isWrongCount 83 = .ok (.aload_n 0, 1) := by decide +kernel
theorem d_Lo_isWrongCount_84 : decode b_Lo_isWrongCount 84 = .ok (.iload_n 1, 1) := by decide +kernel
theorem d_Lo_isWrongCount_85 : decode b_Lo_isWrongCount 85 = .ok (.aload_n 0, 1) := by decide +kernel
theorem d_Lo_isWrongCount_86 : decode b_Lo_isWrongCount 86 = .ok (.getfield 9, 3) := by decide +kernel
theorem d_Lo_isWrongCount_89 : decode b_Lo_isWrongCount 89 = .ok (.iload_n 3, 1) := by decide +kernel
theorem d_Lo_isWrongCount_90 : decode b_Lo_isWrongCount 90 = .ok (.iaload, 1) := by decide +kernel
theorem d_Lo_isWrongCount_91 : decode b_Lo_isWrongCount 91 = .ok (.invokevirtual 59, 3) := by decide +kernel
theorem d_Lo_isWrongCount_94 : decode b_Lo_isWrongCount 94 = .ok (.ifCond .eq 5, 3) := by decide +kernel
theorem d_Lo_isWrongCount_97 : decode b_Lo_isWrongCount 97 = .ok (.iconst 1, 1) := by decide +kernel
theorem d_Lo_isWrongCount_98 : decode b_Lo_isWrongCount 98 = .ok (.ireturn, 1) := by decide +kernel
theorem d_Lo_isWrongCount_99 : decode b_Lo_isWrongCount 99 = .ok (.iinc 3 1, 3) := by decide +kernel
theorem d_Lo_isWrongCount_102 : decode b_Lo_isWrongCount 102 = .ok (.goto (-48), 3) := by decide +kernel
theorem d_Lo_isWrongCount_105 : decode b_Lo_isWrongCount 105 = .ok (.iconst 0, 1) := by decide +kernel
theorem d_Lo_isWrongCount_106 : decode b_Lo_isWrongCount 106 = .ok (.ireturn, 1) := by decide +kernel
def r_Lo_isWrongCount_l54 (n : Nat) (ko : T_ko) (lo : T_lo)  : Nat → Int32 → Int32 → Int32 → Option (Int32)
  | 0, _, _, _ => none
  | f + 1, x1, x2, x3 => if (lo_loops lo) ≤ x3 then some ((0 : Int32)) else gr (lo_nexts lo) x3 256 (fun v3 => (r_Co_aAt n ko (lo_unit lo) v3).bind (fun q4 => if q4 = x2 then gr (lo_nexts lo) x3 256 (fun v7 => (r_Lo_isIn n ko lo x1 v7).bind (fun q8 => if q8 = 0 then (r_Lo_isWrongCount_l54 n ko lo f) x1 x2 (x3 + 1) else some ((1 : Int32)))) else (r_Lo_isWrongCount_l54 n ko lo f) x1 x2 (x3 + 1)))
def r_Lo_isWrongCount (n : Nat) (ko : T_ko) (lo : T_lo) (a0 : Int32) : Option (Int32) := (r_Co_aAt n ko (lo_unit lo) a0).bind (fun q10 => (r_Co_numberAt n ko (lo_unit lo) (a0 + (1 : Int32))).bind (fun q11 => if q11 = (13 : Int32) then (r_Co_aAt n ko (lo_unit lo) (a0 + (1 : Int32))).bind (fun q13 => if q13 = q10 then r_Lo_isWrongCount_l54 n ko lo n a0 q10 (0 : Int32) else some ((1 : Int32))) else some ((1 : Int32))))
def rm_Lo_isWrongCount : Jvm.Room := { frames := 3, cells := 0, slots := 0, locals := 68 }
set_option maxHeartbeats 4000000 in
set_option maxRecDepth 100000 in
theorem c_Lo_isWrongCount {l : Launch} {D : va_G} {cI cL : ClassId} {ad : Nat → Nat} {ma : T_ma} {ko : T_ko} {sh : T_sh} {lo : T_lo} {de : T_de} {wa : T_wa} {me : T_me} {ru : T_ru} {ws0 : va_W} {sz n : Nat} {a0 : Int32} {r9 : Int32} (hw : ws0 = (wX cI cL ad ma ko sh lo de wa me ru)) (h : r_Lo_isWrongCount n ko lo a0 = some r9) : Met l y_Lo_isWrongCount (Cond.code y_Lo_isWrongCount b_Lo_isWrongCount 4 (some .boolean) :: TB) rm_Lo_isWrongCount (PreW D clX (tyX cI cL) ws0 [.ref (ad 11), .int a0] sz) (PstI D clX (tyX cI cL) ws0 (wX cI cL ad ma ko sh lo de wa me ru) sz r9) 0 0 (va_A ws0 sz) := by
  refine k_met (by decide) (Nat.le_of_ble_eq_true rfl) ?_
  intro p e s m below meth c ls hx hb hr hml hts hown hlk hnm hsz hP hK hD hA hz hl
  have hP : va_P D clX (wX cI cL ad ma ko sh lo de wa me ru) s.heap := by rw [← hw]; exact hP
  have hD : va_D (va_A ws0 sz) (wX cI cL ad ma ko sh lo de wa me ru) := by rw [← hw]; exact hD
  have hS : va_S (va_A ws0 sz) s.heap s.heap [] := va_S.rf
  have hl : lv_has ls 4 [(0, .ref (ad 11)), (1, .int a0)] := hl
  generalize hQ : MQ below (PstI D clX (tyX cI cL) ws0 (wX cI cL ad ma ko sh lo de wa me ru) sz r9) [.ref (ad 11), .int a0].toArray s 0 0 (va_A ws0 sz) = Q
  have L54 : ∀ (f54 : Nat), ∀ (x1 : Int32) (x2 : Int32) (x3 : Int32) (H : Heap) (locs : List Loc) (ls : Array Slot), r_Lo_isWrongCount_l54 n ko lo f54 x1 x2 x3 = some r9 → va_P D clX (wX cI cL ad ma ko sh lo de wa me ru) H → va_D (va_A ws0 sz) (wX cI cL ad ma ko sh lo de wa me ru) → va_S (va_A ws0 sz) s.heap H locs → lv_has ls 4 [(0, .ref (ad 11)), (1, .int x1), (2, .int x2), (3, .int x3)] → W p l e rm_Lo_isWrongCount s m [.ref (ad 11), .int a0].toArray below meth c H locs 0 0 Q (F0 m 54 ls []) := by
    intro f54
    induction f54 with
    | zero =>
      intro x1 x2 x3 H locs ls h hP hD hS hl
      exact absurd h (by intro h; cases h)
    | succ f54 ih54 =>
      intro x1 x2 x3 H locs ls h hP hD hS hl
      rw [r_Lo_isWrongCount_l54] at h
      refine lv_iload_n hx hb d_Lo_isWrongCount_54 rfl (lv_at hl 3 rfl) ?_
      refine lv_aload_n hx hb d_Lo_isWrongCount_55 rfl (lv_at hl 0 rfl) ?_
      refine rd_Lo_loops hx hb hts hown hK hP lk_96 (v := (lo_loops lo)) rfl d_Lo_isWrongCount_56 ?_
      refine lv_icmp_ge (tgt := 105) hx hb d_Lo_isWrongCount_59 (by decide) (fun c1 => ?_) (fun c1 => ?_)
      · rw [if_pos c1] at h
        refine lv_iconst (v := 0) hx hb d_Lo_isWrongCount_105 (by decide) ?_
        cases h
        subst hQ
        exact k_zret hx hb hr hlk (Or.inl rfl) hP hK hD hS d_Lo_isWrongCount_106
      · rw [if_neg c1] at h
        refine lv_aload_n hx hb d_Lo_isWrongCount_62 rfl (lv_at hl 0 rfl) ?_
        refine rd_Lo_code hx hb hts hown hK hP lk_94 d_Lo_isWrongCount_63 ?_
        refine lv_aload_n hx hb d_Lo_isWrongCount_66 rfl (lv_at hl 0 rfl) ?_
        refine rd_Lo_unit hx hb hts hown hK hP lk_97 (v := (lo_unit lo)) rfl d_Lo_isWrongCount_67 ?_
        refine lv_aload_n hx hb d_Lo_isWrongCount_70 rfl (lv_at hl 0 rfl) ?_
        refine rd_Lo_nexts hx hb hts hown hK hP lk_95 d_Lo_isWrongCount_71 ?_
        refine lv_iload_n hx hb d_Lo_isWrongCount_74 rfl (lv_at hl 3 rfl) ?_
        obtain ⟨hi2, v3, ev3, h⟩ := gr_some h
        refine ld_Lo_nexts hx hb hK hP hi2 ev3 d_Lo_isWrongCount_75 ?_
        obtain ⟨q4, hq4, h⟩ := Option.bind_eq_some_iff.mp h
        refine k_I (k_runVN ⟨hx, hb, hml, hown, hts⟩ (c_Co_aAt rfl hq4) ok_Co_aAt is_Co_aAt lk_438 rfl rfl ⟨by decide, by decide⟩ hP hK hD hS hA hz (ci := 1) (q0 := 1) rfl rfl ob_Co rfl hl.1 rfl (Nat.le_of_ble_eq_true rfl) d_Lo_isWrongCount_76 ⟨Nat.zero_le _, Nat.zero_le _⟩) hD hS hA (fun H locs hP hD hS => ?_)
        refine lv_iload_n hx hb d_Lo_isWrongCount_79 rfl (lv_at hl 2 rfl) ?_
        refine lv_icmp_ne (tgt := 99) hx hb d_Lo_isWrongCount_80 (by decide) (fun c5 => ?_) (fun c5 => ?_)
        · rw [if_neg c5] at h
          refine lv_iinc (v := (x3 + 1)) (lv' := [(3, .int (x3 + 1)), (0, .ref (ad 11)), (1, .int x1), (2, .int x2)]) hx hb d_Lo_isWrongCount_99 hl (k := 3) rfl rfl (by decide) rfl (fun ls hl => ?_)
          refine lv_goto (tgt := 54) hx hb d_Lo_isWrongCount_102 (by decide) ?_
          exact ih54 _ _ _ _ _ _ h hP hD hS (lv_sub hl [1, 2, 3, 0] rfl)
        · rw [if_pos c5] at h
          refine lv_aload_n hx hb d_Lo_isWrongCount_83 rfl (lv_at hl 0 rfl) ?_
          refine lv_iload_n hx hb d_Lo_isWrongCount_84 rfl (lv_at hl 1 rfl) ?_
          refine lv_aload_n hx hb d_Lo_isWrongCount_85 rfl (lv_at hl 0 rfl) ?_
          refine rd_Lo_nexts hx hb hts hown hK hP lk_95 d_Lo_isWrongCount_86 ?_
          refine lv_iload_n hx hb d_Lo_isWrongCount_89 rfl (lv_at hl 3 rfl) ?_
          obtain ⟨hi6, v7, ev7, h⟩ := gr_some h
          refine ld_Lo_nexts hx hb hK hP hi6 ev7 d_Lo_isWrongCount_90 ?_
          obtain ⟨q8, hq8, h⟩ := Option.bind_eq_some_iff.mp h
          refine k_I (k_runV ⟨hx, hb, hml, hown, hts⟩ (c_Lo_isIn rfl hq8) ok_Lo_isIn is_Lo_isIn lk_439 rfl rfl ⟨by decide, by decide⟩ hP hK hD hS hA hz (ci := 3) (q0 := 11) rfl rfl ob_Lo rfl hl.1 rfl (Nat.le_of_ble_eq_true rfl) d_Lo_isWrongCount_91 ⟨Nat.zero_le _, Nat.zero_le _⟩) hD hS hA (fun H locs hP hD hS => ?_)
          refine lv_if_eq (tgt := 99) hx hb d_Lo_isWrongCount_94 (by decide) (fun c9 => ?_) (fun c9 => ?_)
          · rw [if_pos c9] at h
            refine lv_iinc (v := (x3 + 1)) (lv' := [(3, .int (x3 + 1)), (0, .ref (ad 11)), (1, .int x1), (2, .int x2)]) hx hb d_Lo_isWrongCount_99 hl (k := 3) rfl rfl (by decide) rfl (fun ls hl => ?_)
            refine lv_goto (tgt := 54) hx hb d_Lo_isWrongCount_102 (by decide) ?_
            exact ih54 _ _ _ _ _ _ h hP hD hS (lv_sub hl [1, 2, 3, 0] rfl)
          · rw [if_neg c9] at h
            refine lv_iconst (v := 1) hx hb d_Lo_isWrongCount_97 (by decide) ?_
            cases h
            subst hQ
            exact k_zret hx hb hr hlk (Or.inr rfl) hP hK hD hS d_Lo_isWrongCount_98
  unfold r_Lo_isWrongCount at h
  refine lv_aload_n hx hb d_Lo_isWrongCount_0 rfl (lv_at hl 0 rfl) ?_
  refine rd_Lo_code hx hb hts hown hK hP lk_94 d_Lo_isWrongCount_1 ?_
  refine lv_aload_n hx hb d_Lo_isWrongCount_4 rfl (lv_at hl 0 rfl) ?_
  refine rd_Lo_unit hx hb hts hown hK hP lk_97 (v := (lo_unit lo)) rfl d_Lo_isWrongCount_5 ?_
  refine lv_iload_n hx hb d_Lo_isWrongCount_8 rfl (lv_at hl 1 rfl) ?_
  obtain ⟨q10, hq10, h⟩ := Option.bind_eq_some_iff.mp h
  refine k_I (k_runVN ⟨hx, hb, hml, hown, hts⟩ (c_Co_aAt rfl hq10) ok_Co_aAt is_Co_aAt lk_438 rfl rfl ⟨by decide, by decide⟩ hP hK hD hS hA hz (ci := 1) (q0 := 1) rfl rfl ob_Co rfl hl.1 rfl (Nat.le_of_ble_eq_true rfl) d_Lo_isWrongCount_9 ⟨Nat.zero_le _, Nat.zero_le _⟩) hD hS hA (fun H locs hP hD hS => ?_)
  refine lv_istore_n (lv' := [(2, .int q10), (0, .ref (ad 11)), (1, .int a0)]) hx hb d_Lo_isWrongCount_12 rfl hl (by decide) rfl (fun ls hl => ?_)
  refine lv_aload_n hx hb d_Lo_isWrongCount_13 rfl (lv_at hl 1 rfl) ?_
  refine rd_Lo_code hx hb hts hown hK hP lk_94 d_Lo_isWrongCount_14 ?_
  refine lv_aload_n hx hb d_Lo_isWrongCount_17 rfl (lv_at hl 1 rfl) ?_
  refine rd_Lo_unit hx hb hts hown hK hP lk_97 (v := (lo_unit lo)) rfl d_Lo_isWrongCount_18 ?_
  refine lv_iload_n hx hb d_Lo_isWrongCount_21 rfl (lv_at hl 2 rfl) ?_
  refine lv_iconst (v := 1) hx hb d_Lo_isWrongCount_22 (by decide) ?_
  refine lv_iadd hx hb d_Lo_isWrongCount_23 ?_
  obtain ⟨q11, hq11, h⟩ := Option.bind_eq_some_iff.mp h
  refine k_I (k_runVN ⟨hx, hb, hml, hown, hts⟩ (c_Co_numberAt rfl hq11) ok_Co_numberAt is_Co_numberAt lk_429 rfl rfl ⟨by decide, by decide⟩ hP hK hD hS hA hz (ci := 1) (q0 := 1) rfl rfl ob_Co rfl hl.1 rfl (Nat.le_of_ble_eq_true rfl) d_Lo_isWrongCount_24 ⟨Nat.zero_le _, Nat.zero_le _⟩) hD hS hA (fun H locs hP hD hS => ?_)
  refine lv_bipush (v := 13) hx hb d_Lo_isWrongCount_27 (by decide) ?_
  refine lv_icmp_ne (tgt := 50) hx hb d_Lo_isWrongCount_29 (by decide) (fun c12 => ?_) (fun c12 => ?_)
  · rw [if_neg c12] at h
    refine lv_iconst (v := 1) hx hb d_Lo_isWrongCount_50 (by decide) ?_
    cases h
    subst hQ
    exact k_zret hx hb hr hlk (Or.inr rfl) hP hK hD hS d_Lo_isWrongCount_51
  · rw [if_pos c12] at h
    refine lv_aload_n hx hb d_Lo_isWrongCount_32 rfl (lv_at hl 1 rfl) ?_
    refine rd_Lo_code hx hb hts hown hK hP lk_94 d_Lo_isWrongCount_33 ?_
    refine lv_aload_n hx hb d_Lo_isWrongCount_36 rfl (lv_at hl 1 rfl) ?_
    refine rd_Lo_unit hx hb hts hown hK hP lk_97 (v := (lo_unit lo)) rfl d_Lo_isWrongCount_37 ?_
    refine lv_iload_n hx hb d_Lo_isWrongCount_40 rfl (lv_at hl 2 rfl) ?_
    refine lv_iconst (v := 1) hx hb d_Lo_isWrongCount_41 (by decide) ?_
    refine lv_iadd hx hb d_Lo_isWrongCount_42 ?_
    obtain ⟨q13, hq13, h⟩ := Option.bind_eq_some_iff.mp h
    refine k_I (k_runVN ⟨hx, hb, hml, hown, hts⟩ (c_Co_aAt rfl hq13) ok_Co_aAt is_Co_aAt lk_438 rfl rfl ⟨by decide, by decide⟩ hP hK hD hS hA hz (ci := 1) (q0 := 1) rfl rfl ob_Co rfl hl.1 rfl (Nat.le_of_ble_eq_true rfl) d_Lo_isWrongCount_43 ⟨Nat.zero_le _, Nat.zero_le _⟩) hD hS hA (fun H locs hP hD hS => ?_)
    refine lv_iload_n hx hb d_Lo_isWrongCount_46 rfl (lv_at hl 0 rfl) ?_
    refine lv_icmp_eq (tgt := 52) hx hb d_Lo_isWrongCount_47 (by decide) (fun c14 => ?_) (fun c14 => ?_)
    · rw [if_pos c14] at h
      refine lv_iconst (v := 0) hx hb d_Lo_isWrongCount_52 (by decide) ?_
      refine lv_istore_n (lv' := [(3, .int (0 : Int32)), (2, .int q10), (0, .ref (ad 11)), (1, .int a0)]) hx hb d_Lo_isWrongCount_53 rfl hl (by decide) rfl (fun ls hl => ?_)
      exact L54 n _ _ _ _ _ _ h hP hD hS (lv_sub hl [2, 3, 1, 0] rfl)
    · rw [if_neg c14] at h
      refine lv_iconst (v := 1) hx hb d_Lo_isWrongCount_50 (by decide) ?_
      cases h
      subst hQ
      exact k_zret hx hb hr hlk (Or.inr rfl) hP hK hD hS d_Lo_isWrongCount_51
theorem d_Lo_isWrong_0 : decode b_Lo_isWrong 0 = .ok (.aload_n 0, 1) := by decide +kernel
theorem d_Lo_isWrong_1 : decode b_Lo_isWrong 1 = .ok (.getfield 15, 3) := by decide +kernel
theorem d_Lo_isWrong_4 : decode b_Lo_isWrong 4 = .ok (.aload_n 0, 1) := by decide +kernel
theorem d_Lo_isWrong_5 : decode b_Lo_isWrong 5 = .ok (.getfield 19, 3) := by decide +kernel
theorem d_Lo_isWrong_8 : decode b_Lo_isWrong 8 = .ok (.iload_n 1, 1) := by decide +kernel
theorem d_Lo_isWrong_9 : decode b_Lo_isWrong 9 = .ok (.invokevirtual 39, 3) := by decide +kernel
theorem d_Lo_isWrong_12 : decode b_Lo_isWrong 12 = .ok (.tableswitch 72 10 14 #[54, 54, 36, 42, 48], 36) := by decide +kernel
theorem d_Lo_isWrong_48 : decode b_Lo_isWrong 48 = .ok (.aload_n 0, 1) := by decide +kernel
theorem d_Lo_isWrong_49 : decode b_Lo_isWrong 49 = .ok (.iload_n 1, 1) := by decide +kernel
theorem d_Lo_isWrong_50 : decode b_Lo_isWrong 50 = .ok (.invokevirtual 43, 3) := by decide +kernel
theorem d_Lo_isWrong_53 : decode b_Lo_isWrong 53 = .ok (.ireturn, 1) := by decide +kernel
theorem d_Lo_isWrong_54 : decode b_Lo_isWrong 54 = .ok (.aload_n 0, 1) := by decide +kernel
theorem d_Lo_isWrong_55 : decode b_Lo_isWrong 55 = .ok (.iload_n 1, 1) := by decide +kernel
theorem d_Lo_isWrong_56 : decode b_Lo_isWrong 56 = .ok (.invokevirtual 46, 3) := by decide +kernel
theorem d_Lo_isWrong_59 : decode b_Lo_isWrong 59 = .ok (.ireturn, 1) := by decide +kernel
theorem d_Lo_isWrong_60 : decode b_Lo_isWrong 60 = .ok (.aload_n 0, 1) := by decide +kernel
theorem d_Lo_isWrong_61 : decode b_Lo_isWrong 61 = .ok (.iload_n 1, 1) := by decide +kernel
theorem d_Lo_isWrong_62 : decode b_Lo_isWrong 62 = .ok (.invokevirtual 49, 3) := by decide +kernel
theorem d_Lo_isWrong_65 : decode b_Lo_isWrong 65 = .ok (.ireturn, 1) := by decide +kernel
theorem d_Lo_isWrong_66 : decode b_Lo_isWrong 66 = .ok (.aload_n 0, 1) := by decide +kernel
theorem d_Lo_isWrong_67 : decode b_Lo_isWrong 67 = .ok (.iload_n 1, 1) := by decide +kernel
theorem d_Lo_isWrong_68 : decode b_Lo_isWrong 68 = .ok (.aload_n 0, 1) := by decide +kernel
theorem d_Lo_isWrong_69 : decode b_Lo_isWrong 69 = .ok (.getfield 15, 3) := by decide +kernel
theorem d_Lo_isWrong_72 : decode b_Lo_isWrong 72 = .ok (.aload_n 0, 1) := by decide +kernel
theorem d_Lo_isWrong_73 : decode b_Lo_isWrong 73 = .ok (.getfield 19, 3) := by decide +kernel
theorem d_Lo_isWrong_76 : decode b_Lo_isWrong 76 = .ok (.iload_n 1, 1) := by decide +kernel
theorem d_Lo_isWrong_77 : decode b_Lo_isWrong 77 = .ok (.invokevirtual 52, 3) := by decide +kernel
theorem d_Lo_isWrong_80 : decode b_Lo_isWrong 80 = .ok (.invokevirtual 55, 3) := by decide +kernel
theorem d_Lo_isWrong_83 : decode b_Lo_isWrong 83 = .ok (.ireturn, 1) := by decide +kernel
theorem d_Lo_isWrong_84 : decode b_Lo_isWrong 84 = .ok (.iconst 0, 1) := by decide +kernel
theorem d_Lo_isWrong_85 : decode b_Lo_isWrong 85 = .ok (.ireturn, 1) := by decide +kernel
def r_Lo_isWrong (n : Nat) (ko : T_ko) (lo : T_lo) (a0 : Int32) : Option (Int32) := (r_Co_numberAt n ko (lo_unit lo) a0).bind (fun q1 => if q1 = (10 : Int32) then (r_Co_aAt n ko (lo_unit lo) a0).bind (fun q3 => (r_Lo_goesIntoLoop n ko lo a0 q3).bind (fun q4 => gb q4 (some (q4)))) else if q1 = (11 : Int32) then (r_Co_aAt n ko (lo_unit lo) a0).bind (fun q7 => (r_Lo_goesIntoLoop n ko lo a0 q7).bind (fun q8 => gb q8 (some (q8)))) else if q1 = (12 : Int32) then (r_Lo_isWrongCount n ko lo a0).bind (fun q11 => gb q11 (some (q11))) else if q1 = (13 : Int32) then (r_Lo_isWrongNext n ko lo a0).bind (fun q14 => gb q14 (some (q14))) else if q1 = (14 : Int32) then (r_Lo_isWrongBack n ko lo a0).bind (fun q17 => gb q17 (some (q17))) else some ((0 : Int32)))
def rm_Lo_isWrong : Jvm.Room := { frames := 4, cells := 0, slots := 0, locals := 92 }
set_option maxHeartbeats 4000000 in
set_option maxRecDepth 100000 in
theorem c_Lo_isWrong {l : Launch} {D : va_G} {cI cL : ClassId} {ad : Nat → Nat} {ma : T_ma} {ko : T_ko} {sh : T_sh} {lo : T_lo} {de : T_de} {wa : T_wa} {me : T_me} {ru : T_ru} {ws0 : va_W} {sz n : Nat} {a0 : Int32} {r9 : Int32} (hw : ws0 = (wX cI cL ad ma ko sh lo de wa me ru)) (h : r_Lo_isWrong n ko lo a0 = some r9) : Met l y_Lo_isWrong (Cond.code y_Lo_isWrong b_Lo_isWrong 2 (some .boolean) :: TB) rm_Lo_isWrong (PreW D clX (tyX cI cL) ws0 [.ref (ad 11), .int a0] sz) (PstI D clX (tyX cI cL) ws0 (wX cI cL ad ma ko sh lo de wa me ru) sz r9) 0 0 (va_A ws0 sz) := by
  refine k_met (by decide) (Nat.le_of_ble_eq_true rfl) ?_
  intro p e s m below meth c ls hx hb hr hml hts hown hlk hnm hsz hP hK hD hA hz hl
  have hP : va_P D clX (wX cI cL ad ma ko sh lo de wa me ru) s.heap := by rw [← hw]; exact hP
  have hD : va_D (va_A ws0 sz) (wX cI cL ad ma ko sh lo de wa me ru) := by rw [← hw]; exact hD
  have hS : va_S (va_A ws0 sz) s.heap s.heap [] := va_S.rf
  have hl : lv_has ls 2 [(0, .ref (ad 11)), (1, .int a0)] := hl
  generalize hQ : MQ below (PstI D clX (tyX cI cL) ws0 (wX cI cL ad ma ko sh lo de wa me ru) sz r9) [.ref (ad 11), .int a0].toArray s 0 0 (va_A ws0 sz) = Q
  unfold r_Lo_isWrong at h
  refine lv_aload_n hx hb d_Lo_isWrong_0 rfl (lv_at hl 0 rfl) ?_
  refine rd_Lo_code hx hb hts hown hK hP lk_94 d_Lo_isWrong_1 ?_
  refine lv_aload_n hx hb d_Lo_isWrong_4 rfl (lv_at hl 0 rfl) ?_
  refine rd_Lo_unit hx hb hts hown hK hP lk_97 (v := (lo_unit lo)) rfl d_Lo_isWrong_5 ?_
  refine lv_iload_n hx hb d_Lo_isWrong_8 rfl (lv_at hl 1 rfl) ?_
  obtain ⟨q1, hq1, h⟩ := Option.bind_eq_some_iff.mp h
  refine k_I (k_runVN ⟨hx, hb, hml, hown, hts⟩ (c_Co_numberAt rfl hq1) ok_Co_numberAt is_Co_numberAt lk_429 rfl rfl ⟨by decide, by decide⟩ hP hK hD hS hA hz (ci := 1) (q0 := 1) rfl rfl ob_Co rfl hl.1 rfl (Nat.le_of_ble_eq_true rfl) d_Lo_isWrong_9 ⟨Nat.zero_le _, Nat.zero_le _⟩) hD hS hA (fun H locs hP hD hS => ?_)
  by_cases c2 : q1 = (10 : Int32)
  · rw [if_pos c2] at h
    refine k_sw c2 ?_
    refine lv_tableIn (tgt := 66) hx hb d_Lo_isWrong_12 (by decide) (by decide) rfl (by decide) ?_
    refine lv_aload_n hx hb d_Lo_isWrong_66 rfl (lv_at hl 0 rfl) ?_
    refine lv_iload_n hx hb d_Lo_isWrong_67 rfl (lv_at hl 1 rfl) ?_
    refine lv_aload_n hx hb d_Lo_isWrong_68 rfl (lv_at hl 0 rfl) ?_
    refine rd_Lo_code hx hb hts hown hK hP lk_94 d_Lo_isWrong_69 ?_
    refine lv_aload_n hx hb d_Lo_isWrong_72 rfl (lv_at hl 0 rfl) ?_
    refine rd_Lo_unit hx hb hts hown hK hP lk_97 (v := (lo_unit lo)) rfl d_Lo_isWrong_73 ?_
    refine lv_iload_n hx hb d_Lo_isWrong_76 rfl (lv_at hl 1 rfl) ?_
    obtain ⟨q3, hq3, h⟩ := Option.bind_eq_some_iff.mp h
    refine k_I (k_runVN ⟨hx, hb, hml, hown, hts⟩ (c_Co_aAt rfl hq3) ok_Co_aAt is_Co_aAt lk_438 rfl rfl ⟨by decide, by decide⟩ hP hK hD hS hA hz (ci := 1) (q0 := 1) rfl rfl ob_Co rfl hl.1 rfl (Nat.le_of_ble_eq_true rfl) d_Lo_isWrong_77 ⟨Nat.zero_le _, Nat.zero_le _⟩) hD hS hA (fun H locs hP hD hS => ?_)
    obtain ⟨q4, hq4, h⟩ := Option.bind_eq_some_iff.mp h
    refine k_I (k_runV ⟨hx, hb, hml, hown, hts⟩ (c_Lo_goesIntoLoop rfl hq4) ok_Lo_goesIntoLoop is_Lo_goesIntoLoop lk_452 rfl rfl ⟨by decide, by decide⟩ hP hK hD hS hA hz (ci := 3) (q0 := 11) rfl rfl ob_Lo rfl hl.1 rfl (Nat.le_of_ble_eq_true rfl) d_Lo_isWrong_80 ⟨Nat.zero_le _, Nat.zero_le _⟩) hD hS hA (fun H locs hP hD hS => ?_)
    obtain ⟨hb5, h⟩ := gb_some h
    cases h
    subst hQ
    exact k_zret hx hb hr hlk hb5 hP hK hD hS d_Lo_isWrong_83
  · rw [if_neg c2] at h
    by_cases c6 : q1 = (11 : Int32)
    · rw [if_pos c6] at h
      refine k_sw c6 ?_
      refine lv_tableIn (tgt := 66) hx hb d_Lo_isWrong_12 (by decide) (by decide) rfl (by decide) ?_
      refine lv_aload_n hx hb d_Lo_isWrong_66 rfl (lv_at hl 0 rfl) ?_
      refine lv_iload_n hx hb d_Lo_isWrong_67 rfl (lv_at hl 1 rfl) ?_
      refine lv_aload_n hx hb d_Lo_isWrong_68 rfl (lv_at hl 0 rfl) ?_
      refine rd_Lo_code hx hb hts hown hK hP lk_94 d_Lo_isWrong_69 ?_
      refine lv_aload_n hx hb d_Lo_isWrong_72 rfl (lv_at hl 0 rfl) ?_
      refine rd_Lo_unit hx hb hts hown hK hP lk_97 (v := (lo_unit lo)) rfl d_Lo_isWrong_73 ?_
      refine lv_iload_n hx hb d_Lo_isWrong_76 rfl (lv_at hl 1 rfl) ?_
      obtain ⟨q7, hq7, h⟩ := Option.bind_eq_some_iff.mp h
      refine k_I (k_runVN ⟨hx, hb, hml, hown, hts⟩ (c_Co_aAt rfl hq7) ok_Co_aAt is_Co_aAt lk_438 rfl rfl ⟨by decide, by decide⟩ hP hK hD hS hA hz (ci := 1) (q0 := 1) rfl rfl ob_Co rfl hl.1 rfl (Nat.le_of_ble_eq_true rfl) d_Lo_isWrong_77 ⟨Nat.zero_le _, Nat.zero_le _⟩) hD hS hA (fun H locs hP hD hS => ?_)
      obtain ⟨q8, hq8, h⟩ := Option.bind_eq_some_iff.mp h
      refine k_I (k_runV ⟨hx, hb, hml, hown, hts⟩ (c_Lo_goesIntoLoop rfl hq8) ok_Lo_goesIntoLoop is_Lo_goesIntoLoop lk_452 rfl rfl ⟨by decide, by decide⟩ hP hK hD hS hA hz (ci := 3) (q0 := 11) rfl rfl ob_Lo rfl hl.1 rfl (Nat.le_of_ble_eq_true rfl) d_Lo_isWrong_80 ⟨Nat.zero_le _, Nat.zero_le _⟩) hD hS hA (fun H locs hP hD hS => ?_)
      obtain ⟨hb9, h⟩ := gb_some h
      cases h
      subst hQ
      exact k_zret hx hb hr hlk hb9 hP hK hD hS d_Lo_isWrong_83
    · rw [if_neg c6] at h
      by_cases c10 : q1 = (12 : Int32)
      · rw [if_pos c10] at h
        refine k_sw c10 ?_
        refine lv_tableIn (tgt := 48) hx hb d_Lo_isWrong_12 (by decide) (by decide) rfl (by decide) ?_
        refine lv_aload_n hx hb d_Lo_isWrong_48 rfl (lv_at hl 0 rfl) ?_
        refine lv_iload_n hx hb d_Lo_isWrong_49 rfl (lv_at hl 1 rfl) ?_
        obtain ⟨q11, hq11, h⟩ := Option.bind_eq_some_iff.mp h
        refine k_I (k_runV ⟨hx, hb, hml, hown, hts⟩ (c_Lo_isWrongCount rfl hq11) ok_Lo_isWrongCount is_Lo_isWrongCount lk_434 rfl rfl ⟨by decide, by decide⟩ hP hK hD hS hA hz (ci := 3) (q0 := 11) rfl rfl ob_Lo rfl hl.1 rfl (Nat.le_of_ble_eq_true rfl) d_Lo_isWrong_50 ⟨Nat.zero_le _, Nat.zero_le _⟩) hD hS hA (fun H locs hP hD hS => ?_)
        obtain ⟨hb12, h⟩ := gb_some h
        cases h
        subst hQ
        exact k_zret hx hb hr hlk hb12 hP hK hD hS d_Lo_isWrong_53
      · rw [if_neg c10] at h
        by_cases c13 : q1 = (13 : Int32)
        · rw [if_pos c13] at h
          refine k_sw c13 ?_
          refine lv_tableIn (tgt := 54) hx hb d_Lo_isWrong_12 (by decide) (by decide) rfl (by decide) ?_
          refine lv_aload_n hx hb d_Lo_isWrong_54 rfl (lv_at hl 0 rfl) ?_
          refine lv_iload_n hx hb d_Lo_isWrong_55 rfl (lv_at hl 1 rfl) ?_
          obtain ⟨q14, hq14, h⟩ := Option.bind_eq_some_iff.mp h
          refine k_I (k_runV ⟨hx, hb, hml, hown, hts⟩ (c_Lo_isWrongNext rfl hq14) ok_Lo_isWrongNext is_Lo_isWrongNext lk_444 rfl rfl ⟨by decide, by decide⟩ hP hK hD hS hA hz (ci := 3) (q0 := 11) rfl rfl ob_Lo rfl hl.1 rfl (Nat.le_of_ble_eq_true rfl) d_Lo_isWrong_56 ⟨Nat.zero_le _, Nat.zero_le _⟩) hD hS hA (fun H locs hP hD hS => ?_)
          obtain ⟨hb15, h⟩ := gb_some h
          cases h
          subst hQ
          exact k_zret hx hb hr hlk hb15 hP hK hD hS d_Lo_isWrong_59
        · rw [if_neg c13] at h
          by_cases c16 : q1 = (14 : Int32)
          · rw [if_pos c16] at h
            refine k_sw c16 ?_
            refine lv_tableIn (tgt := 60) hx hb d_Lo_isWrong_12 (by decide) (by decide) rfl (by decide) ?_
            refine lv_aload_n hx hb d_Lo_isWrong_60 rfl (lv_at hl 0 rfl) ?_
            refine lv_iload_n hx hb d_Lo_isWrong_61 rfl (lv_at hl 1 rfl) ?_
            obtain ⟨q17, hq17, h⟩ := Option.bind_eq_some_iff.mp h
            refine k_I (k_runV ⟨hx, hb, hml, hown, hts⟩ (c_Lo_isWrongBack rfl hq17) ok_Lo_isWrongBack is_Lo_isWrongBack lk_448 rfl rfl ⟨by decide, by decide⟩ hP hK hD hS hA hz (ci := 3) (q0 := 11) rfl rfl ob_Lo rfl hl.1 rfl (Nat.le_of_ble_eq_true rfl) d_Lo_isWrong_62 ⟨Nat.zero_le _, Nat.zero_le _⟩) hD hS hA (fun H locs hP hD hS => ?_)
            obtain ⟨hb18, h⟩ := gb_some h
            cases h
            subst hQ
            exact k_zret hx hb hr hlk hb18 hP hK hD hS d_Lo_isWrong_65
          · rw [if_neg c16] at h
            refine lv_tableOut (tgt := 84) hx hb d_Lo_isWrong_12 (by have ec2 := lv_neT c2 (a := 10) (by decide); have ec6 := lv_neT c6 (a := 11) (by decide); have ec10 := lv_neT c10 (a := 12) (by decide); have ec13 := lv_neT c13 (a := 13) (by decide); have ec16 := lv_neT c16 (a := 14) (by decide); omega) (by decide) ?_
            refine lv_iconst (v := 0) hx hb d_Lo_isWrong_84 (by decide) ?_
            cases h
            subst hQ
            exact k_zret hx hb hr hlk (Or.inl rfl) hP hK hD hS d_Lo_isWrong_85
theorem d_Lo_gatherLoops_0 : decode b_Lo_gatherLoops 0 = .ok (.aload_n 0, 1) := by decide +kernel
theorem d_Lo_gatherLoops_1 : decode b_Lo_gatherLoops 1 = .ok (.iconst 0, 1) := by decide +kernel
theorem d_Lo_gatherLoops_2 : decode b_Lo_gatherLoops 2 = .ok (.putfield 36, 3) := by decide +kernel
theorem d_Lo_gatherLoops_5 : decode b_Lo_gatherLoops 5 = .ok (.aload_n 0, 1) := by decide +kernel
theorem d_Lo_gatherLoops_6 : decode b_Lo_gatherLoops 6 = .ok (.getfield 15, 3) := by decide +kernel
theorem d_Lo_gatherLoops_9 : decode b_Lo_gatherLoops 9 = .ok (.aload_n 0, 1) := by decide +kernel
theorem d_Lo_gatherLoops_10 : decode b_Lo_gatherLoops 10 = .ok (.getfield 19, 3) := by decide +kernel
theorem d_Lo_gatherLoops_13 : decode b_Lo_gatherLoops 13 = .ok (.invokevirtual 26, 3) := by decide +kernel
theorem d_Lo_gatherLoops_16 : decode b_Lo_gatherLoops 16 = .ok (.istore_n 1, 1) := by decide +kernel
theorem d_Lo_gatherLoops_17 : decode b_Lo_gatherLoops 17 = .ok (.iconst 0, 1) := by decide +kernel
theorem d_Lo_gatherLoops_18 : decode b_Lo_gatherLoops 18 = .ok (.istore_n 2, 1) := by decide +kernel
theorem d_Lo_gatherLoops_19 : decode b_Lo_gatherLoops 19 = .ok (.iload_n 2, 1) := by decide +kernel
theorem d_Lo_gatherLoops_20 : decode b_Lo_gatherLoops 20 = .ok (.iload_n 1, 1) := by decide +kernel
theorem d_Lo_gatherLoops_21 : decode b_Lo_gatherLoops 21 = .ok (.if_icmp .ge 56, 3) := by decide +kernel
theorem d_Lo_gatherLoops_24 : decode b_Lo_gatherLoops 24 = .ok (.aload_n 0, 1) := by decide +kernel
theorem d_Lo_gatherLoops_25 : decode b_Lo_gatherLoops 25 = .ok (.getfield 36, 3) := by decide +kernel
theorem d_Lo_gatherLoops_28 : decode b_Lo_gatherLoops 28 = .ok (.sipush 256, 3) := by decide +kernel
theorem d_Lo_gatherLoops_31 : decode b_Lo_gatherLoops 31 = .ok (.if_icmp .ge 46, 3) := by decide +kernel
theorem d_Lo_gatherLoops_34 : decode b_Lo_gatherLoops 34 = .ok (.aload_n 0, 1) := by decide +kernel
theorem d_Lo_gatherLoops_35 : decode b_Lo_gatherLoops 35 = .ok (.getfield 15, 3) := by decide +kernel
theorem d_Lo_gatherLoops_38 : decode b_Lo_gatherLoops 38 = .ok (.aload_n 0, 1) := by decide +kernel
theorem d_Lo_gatherLoops_39 : decode b_Lo_gatherLoops 39 = .ok (.getfield 19, 3) := by decide +kernel
theorem d_Lo_gatherLoops_42 : decode b_Lo_gatherLoops 42 = .ok (.iload_n 2, 1) := by decide +kernel
theorem d_Lo_gatherLoops_43 : decode b_Lo_gatherLoops 43 = .ok (.invokevirtual 39, 3) := by decide +kernel
theorem d_Lo_gatherLoops_46 : decode b_Lo_gatherLoops 46 = .ok (.bipush 13, 2) := by decide +kernel
theorem d_Lo_gatherLoops_48 : decode b_Lo_gatherLoops 48 = .ok (.if_icmp .ne 23, 3) := by decide +kernel
theorem d_Lo_gatherLoops_51 : decode b_Lo_gatherLoops 51 = .ok (.aload_n 0, 1) := by decide +kernel
theorem d_Lo_gatherLoops_52 : decode b_Lo_gatherLoops 52 = .ok (.getfield 9, 3) := by decide +kernel
theorem d_Lo_gatherLoops_55 : decode b_Lo_gatherLoops 55 = .ok (.aload_n 0, 1) := by decide +kernel
theorem d_Lo_gatherLoops_56 : decode b_Lo_gatherLoops 56 = .ok (.getfield 36, 3) := by decide +kernel
theorem d_Lo_gatherLoops_59 : decode b_Lo_gatherLoops 59 = .ok (.iload_n 2, 1) := by decide +kernel
theorem d_Lo_gatherLoops_60 : decode b_Lo_gatherLoops 60 = .ok (.iastore, 1) := by decide +kernel
theorem d_Lo_gatherLoops_61 : decode b_Lo_gatherLoops 61 = .ok (.aload_n 0, 1) := by decide +kernel
theorem d_Lo_gatherLoops_62 : decode b_Lo_gatherLoops 62 = .ok (.dup, 1) := by decide +kernel
theorem d_Lo_gatherLoops_63 : decode b_Lo_gatherLoops 63 = .ok (.getfield 36, 3) := by decide +kernel
theorem d_Lo_gatherLoops_66 : decode b_Lo_gatherLoops 66 = .ok (.iconst 1, 1) := by decide +kernel
theorem d_Lo_gatherLoops_67 : decode b_Lo_gatherLoops 67 = .ok (.iadd, 1) := by decide +kernel
theorem d_Lo_gatherLoops_68 : decode b_Lo_gatherLoops 68 = .ok (.putfield 36, 3) := by decide +kernel
theorem d_Lo_gatherLoops_71 : decode b_Lo_gatherLoops 71 = .ok (.iinc 2 1, 3) := by decide +kernel
theorem d_Lo_gatherLoops_74 : decode b_Lo_gatherLoops 74 = .ok (.goto (-55), 3) := by decide +kernel
theorem d_Lo_gatherLoops_77 : decode b_Lo_gatherLoops 77 = .ok (.return_, 1) := by decide +kernel
def r_Lo_gatherLoops_l19 (n : Nat) (ko : T_ko)  : Nat → T_lo → Int32 → Int32 → Option (T_lo)
  | 0, _, _, _ => none
  | f + 1, lo, x1, x2 => if x1 ≤ x2 then some (lo) else if (256 : Int32) ≤ (lo_loops lo) then some (lo) else (r_Co_numberAt n ko (lo_unit lo) x2).bind (fun q3 => if q3 = (13 : Int32) then ga (lo_loops lo) 256 ((r_Lo_gatherLoops_l19 n ko f) ((lo_loops_s (lo_nexts_s lo (upd (lo_nexts lo) (lo_loops lo).toNatClampNeg x2)) ((lo_loops (lo_nexts_s lo (upd (lo_nexts lo) (lo_loops lo).toNatClampNeg x2))) + (1 : Int32)))) x1 (x2 + 1)) else (r_Lo_gatherLoops_l19 n ko f) lo x1 (x2 + 1))
def r_Lo_gatherLoops (n : Nat) (ko : T_ko) (lo : T_lo)  : Option (T_lo) := (r_Co_sizeOf n ko (lo_unit (lo_loops_s lo (0 : Int32)))).bind (fun q6 => r_Lo_gatherLoops_l19 n ko n ((lo_loops_s lo (0 : Int32))) q6 (0 : Int32))
def rm_Lo_gatherLoops : Jvm.Room := { frames := 2, cells := 0, slots := 0, locals := 46 }
set_option maxHeartbeats 4000000 in
set_option maxRecDepth 100000 in
theorem c_Lo_gatherLoops {l : Launch} {D : va_G} {cI cL : ClassId} {ad : Nat → Nat} {ma : T_ma} {ko : T_ko} {sh : T_sh} {lo : T_lo} {de : T_de} {wa : T_wa} {me : T_me} {ru : T_ru} {ws0 : va_W} {sz n : Nat}  {lo9 : T_lo} (hw : ws0 = (wX cI cL ad ma ko sh lo de wa me ru)) (h : r_Lo_gatherLoops n ko lo  = some lo9) : Met l y_Lo_gatherLoops (Cond.code y_Lo_gatherLoops b_Lo_gatherLoops 3 none :: TB) rm_Lo_gatherLoops (PreW D clX (tyX cI cL) ws0 [.ref (ad 11)] sz) (PstV D clX (tyX cI cL) ws0 (wX cI cL ad ma ko sh (lo9) de wa me ru) sz) 0 0 (va_A ws0 sz) := by
  refine k_met (by decide) (Nat.le_of_ble_eq_true rfl) ?_
  intro p e s m below meth c ls hx hb hr hml hts hown hlk hnm hsz hP hK hD hA hz hl
  have hP : va_P D clX (wX cI cL ad ma ko sh lo de wa me ru) s.heap := by rw [← hw]; exact hP
  have hD : va_D (va_A ws0 sz) (wX cI cL ad ma ko sh lo de wa me ru) := by rw [← hw]; exact hD
  have hS : va_S (va_A ws0 sz) s.heap s.heap [] := va_S.rf
  have hl : lv_has ls 3 [(0, .ref (ad 11))] := hl
  generalize hQ : MQ below (PstV D clX (tyX cI cL) ws0 (wX cI cL ad ma ko sh (lo9) de wa me ru) sz) [.ref (ad 11)].toArray s 0 0 (va_A ws0 sz) = Q
  have L19 : ∀ (f19 : Nat), ∀ (lo : T_lo) (x1 : Int32) (x2 : Int32) (H : Heap) (locs : List Loc) (ls : Array Slot), r_Lo_gatherLoops_l19 n ko f19 lo x1 x2 = some lo9 → va_P D clX (wX cI cL ad ma ko sh lo de wa me ru) H → va_D (va_A ws0 sz) (wX cI cL ad ma ko sh lo de wa me ru) → va_S (va_A ws0 sz) s.heap H locs → lv_has ls 3 [(0, .ref (ad 11)), (1, .int x1), (2, .int x2)] → W p l e rm_Lo_gatherLoops s m [.ref (ad 11)].toArray below meth c H locs 0 0 Q (F0 m 19 ls []) := by
    intro f19
    induction f19 with
    | zero =>
      intro lo x1 x2 H locs ls h hP hD hS hl
      exact absurd h (by intro h; cases h)
    | succ f19 ih19 =>
      intro lo x1 x2 H locs ls h hP hD hS hl
      rw [r_Lo_gatherLoops_l19] at h
      refine lv_iload_n hx hb d_Lo_gatherLoops_19 rfl (lv_at hl 2 rfl) ?_
      refine lv_iload_n hx hb d_Lo_gatherLoops_20 rfl (lv_at hl 1 rfl) ?_
      refine lv_icmp_ge (tgt := 77) hx hb d_Lo_gatherLoops_21 (by decide) (fun c1 => ?_) (fun c1 => ?_)
      · rw [if_pos c1] at h
        cases h
        subst hQ
        exact k_vret hx hb hr hlk hP hK hD hS d_Lo_gatherLoops_77
      · rw [if_neg c1] at h
        refine lv_aload_n hx hb d_Lo_gatherLoops_24 rfl (lv_at hl 0 rfl) ?_
        refine rd_Lo_loops hx hb hts hown hK hP lk_96 (v := (lo_loops lo)) rfl d_Lo_gatherLoops_25 ?_
        refine lv_sipush (v := 256) hx hb d_Lo_gatherLoops_28 (by decide) ?_
        refine lv_icmp_ge (tgt := 77) hx hb d_Lo_gatherLoops_31 (by decide) (fun c2 => ?_) (fun c2 => ?_)
        · rw [if_pos c2] at h
          cases h
          subst hQ
          exact k_vret hx hb hr hlk hP hK hD hS d_Lo_gatherLoops_77
        · rw [if_neg c2] at h
          refine lv_aload_n hx hb d_Lo_gatherLoops_34 rfl (lv_at hl 0 rfl) ?_
          refine rd_Lo_code hx hb hts hown hK hP lk_94 d_Lo_gatherLoops_35 ?_
          refine lv_aload_n hx hb d_Lo_gatherLoops_38 rfl (lv_at hl 0 rfl) ?_
          refine rd_Lo_unit hx hb hts hown hK hP lk_97 (v := (lo_unit lo)) rfl d_Lo_gatherLoops_39 ?_
          refine lv_iload_n hx hb d_Lo_gatherLoops_42 rfl (lv_at hl 2 rfl) ?_
          obtain ⟨q3, hq3, h⟩ := Option.bind_eq_some_iff.mp h
          refine k_I (k_runVN ⟨hx, hb, hml, hown, hts⟩ (c_Co_numberAt rfl hq3) ok_Co_numberAt is_Co_numberAt lk_429 rfl rfl ⟨by decide, by decide⟩ hP hK hD hS hA hz (ci := 1) (q0 := 1) rfl rfl ob_Co rfl hl.1 rfl (Nat.le_of_ble_eq_true rfl) d_Lo_gatherLoops_43 ⟨Nat.zero_le _, Nat.zero_le _⟩) hD hS hA (fun H locs hP hD hS => ?_)
          refine lv_bipush (v := 13) hx hb d_Lo_gatherLoops_46 (by decide) ?_
          refine lv_icmp_ne (tgt := 71) hx hb d_Lo_gatherLoops_48 (by decide) (fun c4 => ?_) (fun c4 => ?_)
          · rw [if_neg c4] at h
            refine lv_iinc (v := (x2 + 1)) (lv' := [(2, .int (x2 + 1)), (0, .ref (ad 11)), (1, .int x1)]) hx hb d_Lo_gatherLoops_71 hl (k := 2) rfl rfl (by decide) rfl (fun ls hl => ?_)
            refine lv_goto (tgt := 19) hx hb d_Lo_gatherLoops_74 (by decide) ?_
            exact ih19 _ _ _ _ _ _ h hP hD hS (lv_sub hl [1, 2, 0] rfl)
          · rw [if_pos c4] at h
            refine lv_aload_n hx hb d_Lo_gatherLoops_51 rfl (lv_at hl 0 rfl) ?_
            refine rd_Lo_nexts hx hb hts hown hK hP lk_95 d_Lo_gatherLoops_52 ?_
            refine lv_aload_n hx hb d_Lo_gatherLoops_55 rfl (lv_at hl 0 rfl) ?_
            refine rd_Lo_loops hx hb hts hown hK hP lk_96 (v := (lo_loops lo)) rfl d_Lo_gatherLoops_56 ?_
            refine lv_iload_n hx hb d_Lo_gatherLoops_59 rfl (lv_at hl 2 rfl) ?_
            obtain ⟨hi5, h⟩ := ga_some h
            refine st_Lo_nexts hx hb hK hP hD hS hi5 d_Lo_gatherLoops_60 (fun H locs hP hD hS => ?_)
            refine lv_aload_n hx hb d_Lo_gatherLoops_61 rfl (lv_at hl 0 rfl) ?_
            refine lv_dup hx hb d_Lo_gatherLoops_62 rfl ?_
            refine rd_Lo_loops hx hb hts hown hK hP lk_96 (v := (lo_loops (lo_nexts_s lo (upd (lo_nexts lo) (lo_loops lo).toNatClampNeg x2)))) rfl d_Lo_gatherLoops_63 ?_
            refine lv_iconst (v := 1) hx hb d_Lo_gatherLoops_66 (by decide) ?_
            refine lv_iadd hx hb d_Lo_gatherLoops_67 ?_
            refine wr_Lo_loops hx hb hts hown hK hP hD hS lk_96 d_Lo_gatherLoops_68 (fun H locs hP hD hS => ?_)
            refine lv_iinc (v := (x2 + 1)) (lv' := [(2, .int (x2 + 1)), (0, .ref (ad 11)), (1, .int x1)]) hx hb d_Lo_gatherLoops_71 hl (k := 2) rfl rfl (by decide) rfl (fun ls hl => ?_)
            refine lv_goto (tgt := 19) hx hb d_Lo_gatherLoops_74 (by decide) ?_
            exact ih19 _ _ _ _ _ _ h hP hD hS (lv_sub hl [1, 2, 0] rfl)
  unfold r_Lo_gatherLoops at h
  refine lv_aload_n hx hb d_Lo_gatherLoops_0 rfl (lv_at hl 0 rfl) ?_
  refine lv_iconst (v := 0) hx hb d_Lo_gatherLoops_1 (by decide) ?_
  refine wr_Lo_loops hx hb hts hown hK hP hD hS lk_96 d_Lo_gatherLoops_2 (fun H locs hP hD hS => ?_)
  refine lv_aload_n hx hb d_Lo_gatherLoops_5 rfl (lv_at hl 0 rfl) ?_
  refine rd_Lo_code hx hb hts hown hK hP lk_94 d_Lo_gatherLoops_6 ?_
  refine lv_aload_n hx hb d_Lo_gatherLoops_9 rfl (lv_at hl 0 rfl) ?_
  refine rd_Lo_unit hx hb hts hown hK hP lk_97 (v := (lo_unit (lo_loops_s lo (0 : Int32)))) rfl d_Lo_gatherLoops_10 ?_
  obtain ⟨q6, hq6, h⟩ := Option.bind_eq_some_iff.mp h
  refine k_I (k_runVN ⟨hx, hb, hml, hown, hts⟩ (c_Co_sizeOf rfl hq6) ok_Co_sizeOf is_Co_sizeOf lk_428 rfl rfl ⟨by decide, by decide⟩ hP hK hD hS hA hz (ci := 1) (q0 := 1) rfl rfl ob_Co rfl hl.1 rfl (Nat.le_of_ble_eq_true rfl) d_Lo_gatherLoops_13 ⟨Nat.zero_le _, Nat.zero_le _⟩) hD hS hA (fun H locs hP hD hS => ?_)
  refine lv_istore_n (lv' := [(1, .int q6), (0, .ref (ad 11))]) hx hb d_Lo_gatherLoops_16 rfl hl (by decide) rfl (fun ls hl => ?_)
  refine lv_iconst (v := 0) hx hb d_Lo_gatherLoops_17 (by decide) ?_
  refine lv_istore_n (lv' := [(2, .int (0 : Int32)), (1, .int q6), (0, .ref (ad 11))]) hx hb d_Lo_gatherLoops_18 rfl hl (by decide) rfl (fun ls hl => ?_)
  exact L19 n _ _ _ _ _ _ h hP hD hS (lv_sub hl [2, 1, 0] rfl)
theorem d_Lo_faultOf_0 : decode b_Lo_faultOf 0 = .ok (.aload_n 0, 1) := by decide +kernel
theorem d_Lo_faultOf_1 : decode b_Lo_faultOf 1 = .ok (.iload_n 1, 1) := by decide +kernel
theorem d_Lo_faultOf_2 : decode b_Lo_faultOf 2 = .ok (.putfield 19, 3) := by decide +kernel
theorem d_Lo_faultOf_5 : decode b_Lo_faultOf 5 = .ok (.aload_n 0, 1) := by decide +kernel
theorem d_Lo_faultOf_6 : decode b_Lo_faultOf 6 = .ok (.invokevirtual 23, 3) := by decide +kernel
theorem d_Lo_faultOf_9 : decode b_Lo_faultOf 9 = .ok (.aload_n 0, 1) := by decide +kernel
theorem d_Lo_faultOf_10 : decode b_Lo_faultOf 10 = .ok (.getfield 15, 3) := by decide +kernel
theorem d_Lo_faultOf_13 : decode b_Lo_faultOf 13 = .ok (.aload_n 0, 1) := by decide +kernel
theorem d_Lo_faultOf_14 : decode b_Lo_faultOf 14 = .ok (.getfield 19, 3) := by decide +kernel
theorem d_Lo_faultOf_17 : decode b_Lo_faultOf 17 = .ok (.invokevirtual 26, 3) := by decide +kernel
theorem d_Lo_faultOf_20 : decode b_Lo_faultOf 20 = .ok (.istore_n 2, 1) := by decide +kernel
theorem d_Lo_faultOf_21 : decode b_Lo_faultOf 21 = .ok (.iconst 0, 1) := by decide +kernel
theorem d_Lo_faultOf_22 : decode b_Lo_faultOf 22 = .ok (.istore_n 3, 1) := by decide +kernel
theorem d_Lo_faultOf_23 : decode b_Lo_faultOf 23 = .ok (.iload_n 3, 1) := by decide +kernel
theorem d_Lo_faultOf_24 : decode b_Lo_faultOf 24 = .ok (.iload_n 2, 1) := by decide +kernel
theorem d_Lo_faultOf_25 : decode b_Lo_faultOf 25 = .ok (.if_icmp .ge 20, 3) := by decide +kernel
theorem d_Lo_faultOf_28 : decode b_Lo_faultOf 28 = .ok (.aload_n 0, 1) := by decide +kernel
theorem d_Lo_faultOf_29 : decode b_Lo_faultOf 29 = .ok (.iload_n 3, 1) := by decide +kernel
theorem d_Lo_faultOf_30 : decode b_Lo_faultOf 30 = .ok (.invokevirtual 32, 3) := by decide +kernel
theorem d_Lo_faultOf_33 : decode b_Lo_faultOf 33 = .ok (.ifCond .eq 6, 3) := by decide +kernel
theorem d_Lo_faultOf_36 : decode b_Lo_faultOf 36 = .ok (.bipush 7, 2) := by decide +kernel
theorem d_Lo_faultOf_38 : decode b_Lo_faultOf 38 = .ok (.ireturn, 1) := by decide +kernel
theorem d_Lo_faultOf_39 : decode b_Lo_faultOf 39 = .ok (.iinc 3 1, 3) := by decide +kernel
theorem d_Lo_faultOf_42 : decode b_Lo_faultOf 42 = .ok (.goto (-19), 3) := by decide +kernel
theorem d_Lo_faultOf_45 : decode b_Lo_faultOf 45 = .ok (.iconst 0, 1) := by decide +kernel
theorem d_Lo_faultOf_46 : decode b_Lo_faultOf 46 = .ok (.ireturn, 1) := by decide +kernel
def r_Lo_faultOf_l23 (n : Nat) (ko : T_ko)  : Nat → T_lo → Int32 → Int32 → Option (Int32 × T_lo)
  | 0, _, _, _ => none
  | f + 1, lo, x2, x3 => if x2 ≤ x3 then some ((0 : Int32), lo) else (r_Lo_isWrong n ko lo x3).bind (fun q2 => if q2 = 0 then (r_Lo_faultOf_l23 n ko f) lo x2 (x3 + 1) else some ((7 : Int32), lo))
def r_Lo_faultOf (n : Nat) (ko : T_ko) (lo : T_lo) (a0 : Int32) : Option (Int32 × T_lo) := (r_Lo_gatherLoops n ko (lo_unit_s lo a0)).bind (fun q4 => (r_Co_sizeOf n ko (lo_unit q4)).bind (fun q5 => r_Lo_faultOf_l23 n ko n q4 q5 (0 : Int32)))
def rm_Lo_faultOf : Jvm.Room := { frames := 5, cells := 0, slots := 0, locals := 113 }
set_option maxHeartbeats 4000000 in
set_option maxRecDepth 100000 in
theorem c_Lo_faultOf {l : Launch} {D : va_G} {cI cL : ClassId} {ad : Nat → Nat} {ma : T_ma} {ko : T_ko} {sh : T_sh} {lo : T_lo} {de : T_de} {wa : T_wa} {me : T_me} {ru : T_ru} {ws0 : va_W} {sz n : Nat} {a0 : Int32} {r9 : Int32} {lo9 : T_lo} (hw : ws0 = (wX cI cL ad ma ko sh lo de wa me ru)) (h : r_Lo_faultOf n ko lo a0 = some (r9, lo9)) : Met l y_Lo_faultOf (Cond.code y_Lo_faultOf b_Lo_faultOf 4 (some .int) :: TB) rm_Lo_faultOf (PreW D clX (tyX cI cL) ws0 [.ref (ad 11), .int a0] sz) (PstI D clX (tyX cI cL) ws0 (wX cI cL ad ma ko sh (lo9) de wa me ru) sz r9) 0 0 (va_A ws0 sz) := by
  refine k_met (by decide) (Nat.le_of_ble_eq_true rfl) ?_
  intro p e s m below meth c ls hx hb hr hml hts hown hlk hnm hsz hP hK hD hA hz hl
  have hP : va_P D clX (wX cI cL ad ma ko sh lo de wa me ru) s.heap := by rw [← hw]; exact hP
  have hD : va_D (va_A ws0 sz) (wX cI cL ad ma ko sh lo de wa me ru) := by rw [← hw]; exact hD
  have hS : va_S (va_A ws0 sz) s.heap s.heap [] := va_S.rf
  have hl : lv_has ls 4 [(0, .ref (ad 11)), (1, .int a0)] := hl
  generalize hQ : MQ below (PstI D clX (tyX cI cL) ws0 (wX cI cL ad ma ko sh (lo9) de wa me ru) sz r9) [.ref (ad 11), .int a0].toArray s 0 0 (va_A ws0 sz) = Q
  have L23 : ∀ (f23 : Nat), ∀ (lo : T_lo) (x2 : Int32) (x3 : Int32) (H : Heap) (locs : List Loc) (ls : Array Slot), r_Lo_faultOf_l23 n ko f23 lo x2 x3 = some (r9, lo9) → va_P D clX (wX cI cL ad ma ko sh lo de wa me ru) H → va_D (va_A ws0 sz) (wX cI cL ad ma ko sh lo de wa me ru) → va_S (va_A ws0 sz) s.heap H locs → lv_has ls 4 [(0, .ref (ad 11)), (2, .int x2), (3, .int x3)] → W p l e rm_Lo_faultOf s m [.ref (ad 11), .int a0].toArray below meth c H locs 0 0 Q (F0 m 23 ls []) := by
    intro f23
    induction f23 with
    | zero =>
      intro lo x2 x3 H locs ls h hP hD hS hl
      exact absurd h (by intro h; cases h)
    | succ f23 ih23 =>
      intro lo x2 x3 H locs ls h hP hD hS hl
      rw [r_Lo_faultOf_l23] at h
      refine lv_iload_n hx hb d_Lo_faultOf_23 rfl (lv_at hl 2 rfl) ?_
      refine lv_iload_n hx hb d_Lo_faultOf_24 rfl (lv_at hl 1 rfl) ?_
      refine lv_icmp_ge (tgt := 45) hx hb d_Lo_faultOf_25 (by decide) (fun c1 => ?_) (fun c1 => ?_)
      · rw [if_pos c1] at h
        refine lv_iconst (v := 0) hx hb d_Lo_faultOf_45 (by decide) ?_
        cases h
        subst hQ
        exact k_iret hx hb hr hlk hP hK hD hS d_Lo_faultOf_46
      · rw [if_neg c1] at h
        refine lv_aload_n hx hb d_Lo_faultOf_28 rfl (lv_at hl 0 rfl) ?_
        refine lv_iload_n hx hb d_Lo_faultOf_29 rfl (lv_at hl 2 rfl) ?_
        obtain ⟨q2, hq2, h⟩ := Option.bind_eq_some_iff.mp h
        refine k_I (k_runV ⟨hx, hb, hml, hown, hts⟩ (c_Lo_isWrong rfl hq2) ok_Lo_isWrong is_Lo_isWrong lk_430 rfl rfl ⟨by decide, by decide⟩ hP hK hD hS hA hz (ci := 3) (q0 := 11) rfl rfl ob_Lo rfl hl.1 rfl (Nat.le_of_ble_eq_true rfl) d_Lo_faultOf_30 ⟨Nat.zero_le _, Nat.zero_le _⟩) hD hS hA (fun H locs hP hD hS => ?_)
        refine lv_if_eq (tgt := 39) hx hb d_Lo_faultOf_33 (by decide) (fun c3 => ?_) (fun c3 => ?_)
        · rw [if_pos c3] at h
          refine lv_iinc (v := (x3 + 1)) (lv' := [(3, .int (x3 + 1)), (0, .ref (ad 11)), (2, .int x2)]) hx hb d_Lo_faultOf_39 hl (k := 2) rfl rfl (by decide) rfl (fun ls hl => ?_)
          refine lv_goto (tgt := 23) hx hb d_Lo_faultOf_42 (by decide) ?_
          exact ih23 _ _ _ _ _ _ h hP hD hS (lv_sub hl [1, 2, 0] rfl)
        · rw [if_neg c3] at h
          refine lv_bipush (v := 7) hx hb d_Lo_faultOf_36 (by decide) ?_
          cases h
          subst hQ
          exact k_iret hx hb hr hlk hP hK hD hS d_Lo_faultOf_38
  unfold r_Lo_faultOf at h
  refine lv_aload_n hx hb d_Lo_faultOf_0 rfl (lv_at hl 0 rfl) ?_
  refine lv_iload_n hx hb d_Lo_faultOf_1 rfl (lv_at hl 1 rfl) ?_
  refine wr_Lo_unit hx hb hts hown hK hP hD hS lk_97 d_Lo_faultOf_2 (fun H locs hP hD hS => ?_)
  refine lv_aload_n hx hb d_Lo_faultOf_5 rfl (lv_at hl 0 rfl) ?_
  obtain ⟨q4, hq4, h⟩ := Option.bind_eq_some_iff.mp h
  refine k_V (k_runV ⟨hx, hb, hml, hown, hts⟩ (c_Lo_gatherLoops rfl hq4) ok_Lo_gatherLoops is_Lo_gatherLoops lk_424 rfl rfl ⟨by decide, by decide⟩ hP hK hD hS hA hz (ci := 3) (q0 := 11) rfl rfl ob_Lo rfl hl.1 rfl (Nat.le_of_ble_eq_true rfl) d_Lo_faultOf_6 ⟨Nat.zero_le _, Nat.zero_le _⟩) hD hS hA (fun H locs hP hD hS => ?_)
  refine lv_aload_n hx hb d_Lo_faultOf_9 rfl (lv_at hl 0 rfl) ?_
  refine rd_Lo_code hx hb hts hown hK hP lk_94 d_Lo_faultOf_10 ?_
  refine lv_aload_n hx hb d_Lo_faultOf_13 rfl (lv_at hl 0 rfl) ?_
  refine rd_Lo_unit hx hb hts hown hK hP lk_97 (v := (lo_unit q4)) rfl d_Lo_faultOf_14 ?_
  obtain ⟨q5, hq5, h⟩ := Option.bind_eq_some_iff.mp h
  refine k_I (k_runVN ⟨hx, hb, hml, hown, hts⟩ (c_Co_sizeOf rfl hq5) ok_Co_sizeOf is_Co_sizeOf lk_428 rfl rfl ⟨by decide, by decide⟩ hP hK hD hS hA hz (ci := 1) (q0 := 1) rfl rfl ob_Co rfl hl.1 rfl (Nat.le_of_ble_eq_true rfl) d_Lo_faultOf_17 ⟨Nat.zero_le _, Nat.zero_le _⟩) hD hS hA (fun H locs hP hD hS => ?_)
  refine lv_istore_n (lv' := [(2, .int q5), (0, .ref (ad 11)), (1, .int a0)]) hx hb d_Lo_faultOf_20 rfl hl (by decide) rfl (fun ls hl => ?_)
  refine lv_iconst (v := 0) hx hb d_Lo_faultOf_21 (by decide) ?_
  refine lv_istore_n (lv' := [(3, .int (0 : Int32)), (2, .int q5), (0, .ref (ad 11)), (1, .int a0)]) hx hb d_Lo_faultOf_22 rfl hl (by decide) rfl (fun ls hl => ?_)
  exact L23 n _ _ _ _ _ _ h hP hD hS (lv_sub hl [2, 1, 0] rfl)
