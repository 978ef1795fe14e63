/-! printed by wip/gen/gen3.py: pure functions and contracts of ScanMachine$Memory -/
theorem d_Me_cell_0 : decode b_Me_cell 0 = .ok (.iload_n 1, 1) := by decide +kernel
theorem d_Me_cell_1 : decode b_Me_cell 1 = .ok (.ifCond .lt 21, 3) := by decide +kernel
theorem d_Me_cell_4 : decode b_Me_cell 4 = .ok (.iload_n 1, 1) := by decide +kernel
theorem d_Me_cell_5 : decode b_Me_cell 5 = .ok (.aload_n 0, 1) := by decide +kernel
theorem d_Me_cell_6 : decode b_Me_cell 6 = .ok (.getfield 9, 3) := by decide +kernel
theorem d_Me_cell_9 : decode b_Me_cell 9 = .ok (.arraylength, 1) := by decide +kernel
theorem d_Me_cell_10 : decode b_Me_cell 10 = .ok (.if_icmp .ge 12, 3) := by decide +kernel
theorem d_Me_cell_13 : decode b_Me_cell 13 = .ok (.aload_n 0, 1) := by decide +kernel
theorem d_Me_cell_14 : decode b_Me_cell 14 = .ok (.getfield 9, 3) := by decide +kernel
theorem d_Me_cell_17 : decode b_Me_cell 17 = .ok (.iload_n 1, 1) := by decide +kernel
theorem d_Me_cell_18 : decode b_Me_cell 18 = .ok (.iaload, 1) := by decide +kernel
theorem d_Me_cell_19 : decode b_Me_cell 19 = .ok (.goto 4, 3) := by decide +kernel
theorem d_Me_cell_22 : decode b_Me_cell 22 = .ok (.iconst 0, 1) := by decide +kernel
theorem d_Me_cell_23 : decode b_Me_cell 23 = .ok (.ireturn, 1) := by decide +kernel
def r_Me_cell (n : Nat) (me : T_me) (a0 : Int32) : Option (Int32) := if a0 < 0 then some ((0 : Int32)) else if (4096 : Int32) ≤ a0 then some ((0 : Int32)) else gr (me_cells me) a0 4096 (fun v4 => some (v4))
def rm_Me_cell : Jvm.Room := { frames := 0, cells := 0, slots := 0, locals := 0 }
set_option maxHeartbeats 4000000 in
set_option maxRecDepth 100000 in
theorem c_Me_cell {l : Launch} {D : va_G} {cI cL : ClassId} {ad : Nat → Nat} {ma : T_ma} {ko : T_ko} {sh : T_sh} {lo : T_lo} {de : T_de} {wa : T_wa} {me : T_me} {ru : T_ru} {ws0 : va_W} {sz n : Nat} {a0 : Int32} {r9 : Int32} (hw : ws0 = (wX cI cL ad ma ko sh lo de wa me ru)) (h : r_Me_cell n me a0 = some r9) : Met l y_Me_cell (Cond.code y_Me_cell b_Me_cell 2 (some .int) :: TB) rm_Me_cell (PreW D clX (tyX cI cL) ws0 [.ref (ad 19), .int a0] sz) (PstI D clX (tyX cI cL) ws0 (wX cI cL ad ma ko sh lo de wa me ru) sz r9) 0 0 (va_A ws0 sz) := by
  refine k_met (by decide) (Nat.le_of_ble_eq_true rfl) ?_
  intro p e s m below meth c ls hx hb hr hml hts hown hlk hnm hsz hP hK hD hA hz hl
  have hP : va_P D clX (wX cI cL ad ma ko sh lo de wa me ru) s.heap := by rw [← hw]; exact hP
  have hD : va_D (va_A ws0 sz) (wX cI cL ad ma ko sh lo de wa me ru) := by rw [← hw]; exact hD
  have hS : va_S (va_A ws0 sz) s.heap s.heap [] := va_S.rf
  have hl : lv_has ls 2 [(0, .ref (ad 19)), (1, .int a0)] := hl
  generalize hQ : MQ below (PstI D clX (tyX cI cL) ws0 (wX cI cL ad ma ko sh lo de wa me ru) sz r9) [.ref (ad 19), .int a0].toArray s 0 0 (va_A ws0 sz) = Q
  unfold r_Me_cell at h
  refine lv_iload_n hx hb d_Me_cell_0 rfl (lv_at hl 1 rfl) ?_
  refine lv_if_lt (tgt := 22) hx hb d_Me_cell_1 (by decide) (fun c1 => ?_) (fun c1 => ?_)
  · rw [if_pos c1] at h
    refine lv_iconst (v := 0) hx hb d_Me_cell_22 (by decide) ?_
    cases h
    subst hQ
    exact k_iret hx hb hr hlk hP hK hD hS d_Me_cell_23
  · rw [if_neg c1] at h
    refine lv_iload_n hx hb d_Me_cell_4 rfl (lv_at hl 1 rfl) ?_
    refine lv_aload_n hx hb d_Me_cell_5 rfl (lv_at hl 0 rfl) ?_
    refine rd_Me_cells hx hb hts hown hK hP lk_152 d_Me_cell_6 ?_
    refine le_Me_cells hx hb hK hP d_Me_cell_9 ?_
    refine lv_icmp_ge (tgt := 22) hx hb d_Me_cell_10 (by decide) (fun c2 => ?_) (fun c2 => ?_)
    · rw [if_pos c2] at h
      refine lv_iconst (v := 0) hx hb d_Me_cell_22 (by decide) ?_
      cases h
      subst hQ
      exact k_iret hx hb hr hlk hP hK hD hS d_Me_cell_23
    · rw [if_neg c2] at h
      refine lv_aload_n hx hb d_Me_cell_13 rfl (lv_at hl 0 rfl) ?_
      refine rd_Me_cells hx hb hts hown hK hP lk_152 d_Me_cell_14 ?_
      refine lv_iload_n hx hb d_Me_cell_17 rfl (lv_at hl 1 rfl) ?_
      obtain ⟨hi3, v4, ev4, h⟩ := gr_some h
      refine ld_Me_cells hx hb hK hP hi3 ev4 d_Me_cell_18 ?_
      refine lv_goto (tgt := 23) hx hb d_Me_cell_19 (by decide) ?_
      cases h
      subst hQ
      exact k_iret hx hb hr hlk hP hK hD hS d_Me_cell_23
theorem d_Me_change_0 : decode b_Me_change 0 = .ok (.iload_n 1, 1) := by decide +kernel
theorem d_Me_change_1 : decode b_Me_change 1 = .ok (.ifCond .lt 19, 3) := by decide +kernel
theorem d_Me_change_4 : decode b_Me_change 4 = .ok (.iload_n 1, 1) := by decide +kernel
theorem d_Me_change_5 : decode b_Me_change 5 = .ok (.aload_n 0, 1) := by decide +kernel
theorem d_Me_change_6 : decode b_Me_change 6 = .ok (.getfield 9, 3) := by decide +kernel
theorem d_Me_change_9 : decode b_Me_change 9 = .ok (.arraylength, 1) := by decide +kernel
theorem d_Me_change_10 : decode b_Me_change 10 = .ok (.if_icmp .ge 10, 3) := by decide +kernel
theorem d_Me_change_13 : decode b_Me_change 13 = .ok (.aload_n 0, 1) := by decide +kernel
theorem d_Me_change_14 : decode b_Me_change 14 = .ok (.getfield 9, 3) := by decide +kernel
theorem d_Me_change_17 : decode b_Me_change 17 = .ok (.iload_n 1, 1) := by decide +kernel
theorem d_Me_change_18 : decode b_Me_change 18 = .ok (.iload_n 2, 1) := by decide +kernel
theorem d_Me_change_19 : decode b_Me_change 19 = .ok (.iastore, 1) := by decide +kernel
theorem d_Me_change_20 : decode b_Me_change 20 = .ok (.return_, 1) := by decide +kernel
def r_Me_change (n : Nat) (me : T_me) (a0 : Int32) (a1 : Int32) : Option (T_me) := if a0 < 0 then some (me) else if (4096 : Int32) ≤ a0 then some (me) else ga a0 4096 (some ((me_cells_s me (upd (me_cells me) a0.toNatClampNeg a1))))
def rm_Me_change : Jvm.Room := { frames := 0, cells := 0, slots := 0, locals := 0 }
set_option maxHeartbeats 4000000 in
set_option maxRecDepth 100000 in
theorem c_Me_change {l : Launch} {D : va_G} {cI cL : ClassId} {ad : Nat → Nat} {ma : T_ma} {ko : T_ko} {sh : T_sh} {lo : T_lo} {de : T_de} {wa : T_wa} {me : T_me} {ru : T_ru} {ws0 : va_W} {sz n : Nat} {a0 : Int32} {a1 : Int32} {me9 : T_me} (hw : ws0 = (wX cI cL ad ma ko sh lo de wa me ru)) (h : r_Me_change n me a0 a1 = some me9) : Met l y_Me_change (Cond.code y_Me_change b_Me_change 3 none :: TB) rm_Me_change (PreW D clX (tyX cI cL) ws0 [.ref (ad 19), .int a0, .int a1] sz) (PstV D clX (tyX cI cL) ws0 (wX cI cL ad ma ko sh lo de wa (me9) ru) sz) 0 0 (va_A ws0 sz) := by
  refine k_met (by decide) (Nat.le_of_ble_eq_true rfl) ?_
  intro p e s m below meth c ls hx hb hr hml hts hown hlk hnm hsz hP hK hD hA hz hl
  have hP : va_P D clX (wX cI cL ad ma ko sh lo de wa me ru) s.heap := by rw [← hw]; exact hP
  have hD : va_D (va_A ws0 sz) (wX cI cL ad ma ko sh lo de wa me ru) := by rw [← hw]; exact hD
  have hS : va_S (va_A ws0 sz) s.heap s.heap [] := va_S.rf
  have hl : lv_has ls 3 [(0, .ref (ad 19)), (1, .int a0), (2, .int a1)] := hl
  generalize hQ : MQ below (PstV D clX (tyX cI cL) ws0 (wX cI cL ad ma ko sh lo de wa (me9) ru) sz) [.ref (ad 19), .int a0, .int a1].toArray s 0 0 (va_A ws0 sz) = Q
  unfold r_Me_change at h
  refine lv_iload_n hx hb d_Me_change_0 rfl (lv_at hl 1 rfl) ?_
  refine lv_if_lt (tgt := 20) hx hb d_Me_change_1 (by decide) (fun c1 => ?_) (fun c1 => ?_)
  · rw [if_pos c1] at h
    cases h
    subst hQ
    exact k_vret hx hb hr hlk hP hK hD hS d_Me_change_20
  · rw [if_neg c1] at h
    refine lv_iload_n hx hb d_Me_change_4 rfl (lv_at hl 1 rfl) ?_
    refine lv_aload_n hx hb d_Me_change_5 rfl (lv_at hl 0 rfl) ?_
    refine rd_Me_cells hx hb hts hown hK hP lk_152 d_Me_change_6 ?_
    refine le_Me_cells hx hb hK hP d_Me_change_9 ?_
    refine lv_icmp_ge (tgt := 20) hx hb d_Me_change_10 (by decide) (fun c2 => ?_) (fun c2 => ?_)
    · rw [if_pos c2] at h
      cases h
      subst hQ
      exact k_vret hx hb hr hlk hP hK hD hS d_Me_change_20
    · rw [if_neg c2] at h
      refine lv_aload_n hx hb d_Me_change_13 rfl (lv_at hl 0 rfl) ?_
      refine rd_Me_cells hx hb hts hown hK hP lk_152 d_Me_change_14 ?_
      refine lv_iload_n hx hb d_Me_change_17 rfl (lv_at hl 1 rfl) ?_
      refine lv_iload_n hx hb d_Me_change_18 rfl (lv_at hl 2 rfl) ?_
      obtain ⟨hi3, h⟩ := ga_some h
      refine st_Me_cells hx hb hK hP hD hS hi3 d_Me_change_19 (fun H locs hP hD hS => ?_)
      cases h
      subst hQ
      exact k_vret hx hb hr hlk hP hK hD hS d_Me_change_20
theorem d_Me_pop_0 : decode b_Me_pop 0 = .ok (.aload_n 0, 1) := by decide +kernel
theorem d_Me_pop_1 : decode b_Me_pop 1 = .ok (.getfield 27, 3) := by decide +kernel
theorem d_Me_pop_4 : decode b_Me_pop 4 = .ok (.ifCond .le 15, 3) := by decide +kernel
theorem d_Me_pop_7 : decode b_Me_pop 7 = .ok (.aload_n 0, 1) := by decide +kernel
theorem d_Me_pop_8 : decode b_Me_pop 8 = .ok (.getfield 27, 3) := by decide +kernel
theorem d_Me_pop_11 : decode b_Me_pop 11 = .ok (.aload_n 0, 1) := by decide +kernel
theorem d_Me_pop_12 : decode b_Me_pop 12 = .ok (.getfield 15, 3) := by decide +kernel
theorem d_Me_pop_15 : decode b_Me_pop 15 = .ok (.arraylength, 1) := by decide +kernel
theorem d_Me_pop_16 : decode b_Me_pop 16 = .ok (.if_icmp .le 5, 3) := by decide +kernel
theorem d_Me_pop_19 : decode b_Me_pop 19 = .ok (.iconst 0, 1) := by decide +kernel
theorem d_Me_pop_20 : decode b_Me_pop 20 = .ok (.ireturn, 1) := by decide +kernel
theorem d_Me_pop_21 : decode b_Me_pop 21 = .ok (.aload_n 0, 1) := by decide +kernel
theorem d_Me_pop_22 : decode b_Me_pop 22 = .ok (.dup, 1) := by decide +kernel
theorem d_Me_pop_23 : decode b_Me_pop 23 = .ok (.getfield 27, 3) := by decide +kernel
theorem d_Me_pop_26 : decode b_Me_pop 26 = .ok (.iconst 1, 1) := by decide +kernel
theorem d_Me_pop_27 : decode b_Me_pop 27 = .ok (.isub, 1) := by decide +kernel
theorem d_Me_pop_28 : decode b_Me_pop 28 = .ok (.putfield 27, 3) := by decide +kernel
theorem d_Me_pop_31 : decode b_Me_pop 31 = .ok (.aload_n 0, 1) := by decide +kernel
theorem d_Me_pop_32 : decode b_Me_pop 32 = .ok (.getfield 15, 3) := by decide +kernel
theorem d_Me_pop_35 : decode b_Me_pop 35 = .ok (.aload_n 0, 1) := by decide +kernel
theorem d_Me_pop_36 : decode b_Me_pop 36 = .ok (.getfield 27, 3) := by decide +kernel
theorem d_Me_pop_39 : decode b_Me_pop 39 = .ok (.iaload, 1) := by decide +kernel
theorem d_Me_pop_40 : decode b_Me_pop 40 = .ok (.ireturn, 1) := by decide +kernel
def r_Me_pop (n : Nat) (me : T_me)  : Option (Int32 × T_me) := if (me_depth me) ≤ 0 then some ((0 : Int32), me) else if (me_depth me) ≤ (1024 : Int32) then gr (me_stack (me_depth_s me ((me_depth me) - (1 : Int32)))) (me_depth (me_depth_s me ((me_depth me) - (1 : Int32)))) 1024 (fun v4 => some (v4, (me_depth_s me ((me_depth me) - (1 : Int32))))) else some ((0 : Int32), me)
def rm_Me_pop : Jvm.Room := { frames := 0, cells := 0, slots := 0, locals := 0 }
set_option maxHeartbeats 4000000 in
set_option maxRecDepth 100000 in
theorem c_Me_pop {l : Launch} {D : va_G} {cI cL : ClassId} {ad : Nat → Nat} {ma : T_ma} {ko : T_ko} {sh : T_sh} {lo : T_lo} {de : T_de} {wa : T_wa} {me : T_me} {ru : T_ru} {ws0 : va_W} {sz n : Nat}  {r9 : Int32} {me9 : T_me} (hw : ws0 = (wX cI cL ad ma ko sh lo de wa me ru)) (h : r_Me_pop n me  = some (r9, me9)) : Met l y_Me_pop (Cond.code y_Me_pop b_Me_pop 1 (some .int) :: TB) rm_Me_pop (PreW D clX (tyX cI cL) ws0 [.ref (ad 19)] sz) (PstI D clX (tyX cI cL) ws0 (wX cI cL ad ma ko sh lo de wa (me9) ru) sz r9) 0 0 (va_A ws0 sz) := by
  refine k_met (by decide) (Nat.le_of_ble_eq_true rfl) ?_
  intro p e s m below meth c ls hx hb hr hml hts hown hlk hnm hsz hP hK hD hA hz hl
  have hP : va_P D clX (wX cI cL ad ma ko sh lo de wa me ru) s.heap := by rw [← hw]; exact hP
  have hD : va_D (va_A ws0 sz) (wX cI cL ad ma ko sh lo de wa me ru) := by rw [← hw]; exact hD
  have hS : va_S (va_A ws0 sz) s.heap s.heap [] := va_S.rf
  have hl : lv_has ls 1 [(0, .ref (ad 19))] := hl
  generalize hQ : MQ below (PstI D clX (tyX cI cL) ws0 (wX cI cL ad ma ko sh lo de wa (me9) ru) sz r9) [.ref (ad 19)].toArray s 0 0 (va_A ws0 sz) = Q
  unfold r_Me_pop at h
  refine lv_aload_n hx hb d_Me_pop_0 rfl (lv_at hl 0 rfl) ?_
  refine rd_Me_depth hx hb hts hown hK hP lk_154 (v := (me_depth me)) rfl d_Me_pop_1 ?_
  refine lv_if_le (tgt := 19) hx hb d_Me_pop_4 (by decide) (fun c1 => ?_) (fun c1 => ?_)
  · rw [if_pos c1] at h
    refine lv_iconst (v := 0) hx hb d_Me_pop_19 (by decide) ?_
    cases h
    subst hQ
    exact k_iret hx hb hr hlk hP hK hD hS d_Me_pop_20
  · rw [if_neg c1] at h
    refine lv_aload_n hx hb d_Me_pop_7 rfl (lv_at hl 0 rfl) ?_
    refine rd_Me_depth hx hb hts hown hK hP lk_154 (v := (me_depth me)) rfl d_Me_pop_8 ?_
    refine lv_aload_n hx hb d_Me_pop_11 rfl (lv_at hl 0 rfl) ?_
    refine rd_Me_stack hx hb hts hown hK hP lk_153 d_Me_pop_12 ?_
    refine le_Me_stack hx hb hK hP d_Me_pop_15 ?_
    refine lv_icmp_le (tgt := 21) hx hb d_Me_pop_16 (by decide) (fun c2 => ?_) (fun c2 => ?_)
    · rw [if_pos c2] at h
      refine lv_aload_n hx hb d_Me_pop_21 rfl (lv_at hl 0 rfl) ?_
      refine lv_dup hx hb d_Me_pop_22 rfl ?_
      refine rd_Me_depth hx hb hts hown hK hP lk_154 (v := (me_depth me)) rfl d_Me_pop_23 ?_
      refine lv_iconst (v := 1) hx hb d_Me_pop_26 (by decide) ?_
      refine lv_isub hx hb d_Me_pop_27 ?_
      refine wr_Me_depth hx hb hts hown hK hP hD hS lk_154 d_Me_pop_28 (fun H locs hP hD hS => ?_)
      refine lv_aload_n hx hb d_Me_pop_31 rfl (lv_at hl 0 rfl) ?_
      refine rd_Me_stack hx hb hts hown hK hP lk_153 d_Me_pop_32 ?_
      refine lv_aload_n hx hb d_Me_pop_35 rfl (lv_at hl 0 rfl) ?_
      refine rd_Me_depth hx hb hts hown hK hP lk_154 (v := (me_depth (me_depth_s me ((me_depth me) - (1 : Int32))))) rfl d_Me_pop_36 ?_
      obtain ⟨hi3, v4, ev4, h⟩ := gr_some h
      refine ld_Me_stack hx hb hK hP hi3 ev4 d_Me_pop_39 ?_
      cases h
      subst hQ
      exact k_iret hx hb hr hlk hP hK hD hS d_Me_pop_40
    · rw [if_neg c2] at h
      refine lv_iconst (v := 0) hx hb d_Me_pop_19 (by decide) ?_
      cases h
      subst hQ
      exact k_iret hx hb hr hlk hP hK hD hS d_Me_pop_20
theorem d_Me_push_0 : decode b_Me_push 0 = .ok (.aload_n 0, 1) := by decide +kernel
theorem d_Me_push_1 : decode b_Me_push 1 = .ok (.getfield 27, 3) := by decide +kernel
theorem d_Me_push_4 : decode b_Me_push 4 = .ok (.ifCond .lt 50, 3) := by decide +kernel
theorem d_Me_push_7 : decode b_Me_push 7 = .ok (.aload_n 0, 1) := by decide +kernel
theorem d_Me_push_8 : decode b_Me_push 8 = .ok (.getfield 27, 3) := by decide +kernel
theorem d_Me_push_11 : decode b_Me_push 11 = .ok (.aload_n 0, 1) := by decide +kernel
theorem d_Me_push_12 : decode b_Me_push 12 = .ok (.getfield 15, 3) := by decide +kernel
theorem d_Me_push_15 : decode b_Me_push 15 = .ok (.arraylength, 1) := by decide +kernel
theorem d_Me_push_16 : decode b_Me_push 16 = .ok (.if_icmp .ge 38, 3) := by decide +kernel
theorem d_Me_push_19 : decode b_Me_push 19 = .ok (.aload_n 0, 1) := by decide +kernel
theorem d_Me_push_20 : decode b_Me_push 20 = .ok (.getfield 15, 3) := by decide +kernel
theorem d_Me_push_23 : decode b_Me_push 23 = .ok (.aload_n 0, 1) := by decide +kernel
theorem d_Me_push_24 : decode b_Me_push 24 = .ok (.getfield 27, 3) := by decide +kernel
theorem d_Me_push_27 : decode b_Me_push 27 = .ok (.iload_n 1, 1) := by decide +kernel
theorem d_Me_push_28 : decode b_Me_push 28 = .ok (.iastore, 1) := by decide +kernel
theorem d_Me_push_29 : decode b_Me_push 29 = .ok (.aload_n 0, 1) := by decide +kernel
theorem d_Me_push_30 : decode b_Me_push 30 = .ok (.dup, 1) := by decide +kernel
theorem d_Me_push_31 : decode b_Me_push 31 = .ok (.getfield 27, 3) := by decide +kernel
theorem d_Me_push_34 : decode b_Me_push 34 = .ok (.iconst 1, 1) := by decide +kernel
theorem d_Me_push_35 : decode b_Me_push 35 = .ok (.iadd, 1) := by decide +kernel
theorem d_Me_push_36 : decode b_Me_push 36 = .ok (.putfield 27, 3) := by decide +kernel
theorem d_Me_push_39 : decode b_Me_push 39 = .ok (.aload_n 0, 1) := by decide +kernel
theorem d_Me_push_40 : decode b_Me_push 40 = .ok (.aload_n 0, 1) := by decide +kernel
theorem d_Me_push_41 : decode b_Me_push 41 = .ok (.getfield 31, 3) := by decide +kernel
theorem d_Me_push_44 : decode b_Me_push 44 = .ok (.aload_n 0, 1) := by decide +kernel
theorem d_Me_push_45 : decode b_Me_push 45 = .ok (.getfield 27, 3) := by decide +kernel
theorem d_Me_push_48 : decode b_Me_push 48 = .ok (.invokestatic 34, 3) := by decide +kernel
theorem d_Me_push_51 : decode b_Me_push 51 = .ok (.putfield 31, 3) := by decide +kernel
theorem d_Me_push_54 : decode b_Me_push 54 = .ok (.return_, 1) := by decide +kernel
def r_Me_push (n : Nat) (me : T_me) (a0 : Int32) : Option (T_me) := if (me_depth me) < 0 then some (me) else if (1024 : Int32) ≤ (me_depth me) then some (me) else ga (me_depth me) 1024 (some ((me_deepest_s (me_depth_s (me_stack_s me (upd (me_stack me) (me_depth me).toNatClampNeg a0)) ((me_depth (me_stack_s me (upd (me_stack me) (me_depth me).toNatClampNeg a0))) + (1 : Int32))) (if (me_deepest (me_depth_s (me_stack_s me (upd (me_stack me) (me_depth me).toNatClampNeg a0)) ((me_depth (me_stack_s me (upd (me_stack me) (me_depth me).toNatClampNeg a0))) + (1 : Int32)))) < (me_depth (me_depth_s (me_stack_s me (upd (me_stack me) (me_depth me).toNatClampNeg a0)) ((me_depth (me_stack_s me (upd (me_stack me) (me_depth me).toNatClampNeg a0))) + (1 : Int32)))) then (me_depth (me_depth_s (me_stack_s me (upd (me_stack me) (me_depth me).toNatClampNeg a0)) ((me_depth (me_stack_s me (upd (me_stack me) (me_depth me).toNatClampNeg a0))) + (1 : Int32)))) else (me_deepest (me_depth_s (me_stack_s me (upd (me_stack me) (me_depth me).toNatClampNeg a0)) ((me_depth (me_stack_s me (upd (me_stack me) (me_depth me).toNatClampNeg a0))) + (1 : Int32))))))))
def rm_Me_push : Jvm.Room := { frames := 1, cells := 0, slots := 0, locals := 24 }
set_option maxHeartbeats 4000000 in
set_option maxRecDepth 100000 in
theorem c_Me_push {l : Launch} {D : va_G} {cI cL : ClassId} {ad : Nat → Nat} {ma : T_ma} {ko : T_ko} {sh : T_sh} {lo : T_lo} {de : T_de} {wa : T_wa} {me : T_me} {ru : T_ru} {ws0 : va_W} {sz n : Nat} {a0 : Int32} {me9 : T_me} (hw : ws0 = (wX cI cL ad ma ko sh lo de wa me ru)) (h : r_Me_push n me a0 = some me9) : Met l y_Me_push (Cond.code y_Me_push b_Me_push 2 none :: TB) rm_Me_push (PreW D clX (tyX cI cL) ws0 [.ref (ad 19), .int a0] sz) (PstV D clX (tyX cI cL) ws0 (wX cI cL ad ma ko sh lo de wa (me9) ru) sz) 0 0 (va_A ws0 sz) := by
  refine k_met (by decide) (Nat.le_of_ble_eq_true rfl) ?_
  intro p e s m below meth c ls hx hb hr hml hts hown hlk hnm hsz hP hK hD hA hz hl
  have hP : va_P D clX (wX cI cL ad ma ko sh lo de wa me ru) s.heap := by rw [← hw]; exact hP
  have hD : va_D (va_A ws0 sz) (wX cI cL ad ma ko sh lo de wa me ru) := by rw [← hw]; exact hD
  have hS : va_S (va_A ws0 sz) s.heap s.heap [] := va_S.rf
  have hl : lv_has ls 2 [(0, .ref (ad 19)), (1, .int a0)] := hl
  generalize hQ : MQ below (PstV D clX (tyX cI cL) ws0 (wX cI cL ad ma ko sh lo de wa (me9) ru) sz) [.ref (ad 19), .int a0].toArray s 0 0 (va_A ws0 sz) = Q
  unfold r_Me_push at h
  refine lv_aload_n hx hb d_Me_push_0 rfl (lv_at hl 0 rfl) ?_
  refine rd_Me_depth hx hb hts hown hK hP lk_154 (v := (me_depth me)) rfl d_Me_push_1 ?_
  refine lv_if_lt (tgt := 54) hx hb d_Me_push_4 (by decide) (fun c1 => ?_) (fun c1 => ?_)
  · rw [if_pos c1] at h
    cases h
    subst hQ
    exact k_vret hx hb hr hlk hP hK hD hS d_Me_push_54
  · rw [if_neg c1] at h
    refine lv_aload_n hx hb d_Me_push_7 rfl (lv_at hl 0 rfl) ?_
    refine rd_Me_depth hx hb hts hown hK hP lk_154 (v := (me_depth me)) rfl d_Me_push_8 ?_
    refine lv_aload_n hx hb d_Me_push_11 rfl (lv_at hl 0 rfl) ?_
    refine rd_Me_stack hx hb hts hown hK hP lk_153 d_Me_push_12 ?_
    refine le_Me_stack hx hb hK hP d_Me_push_15 ?_
    refine lv_icmp_ge (tgt := 54) hx hb d_Me_push_16 (by decide) (fun c2 => ?_) (fun c2 => ?_)
    · rw [if_pos c2] at h
      cases h
      subst hQ
      exact k_vret hx hb hr hlk hP hK hD hS d_Me_push_54
    · rw [if_neg c2] at h
      refine lv_aload_n hx hb d_Me_push_19 rfl (lv_at hl 0 rfl) ?_
      refine rd_Me_stack hx hb hts hown hK hP lk_153 d_Me_push_20 ?_
      refine lv_aload_n hx hb d_Me_push_23 rfl (lv_at hl 0 rfl) ?_
      refine rd_Me_depth hx hb hts hown hK hP lk_154 (v := (me_depth me)) rfl d_Me_push_24 ?_
      refine lv_iload_n hx hb d_Me_push_27 rfl (lv_at hl 1 rfl) ?_
      obtain ⟨hi3, h⟩ := ga_some h
      refine st_Me_stack hx hb hK hP hD hS hi3 d_Me_push_28 (fun H locs hP hD hS => ?_)
      refine lv_aload_n hx hb d_Me_push_29 rfl (lv_at hl 0 rfl) ?_
      refine lv_dup hx hb d_Me_push_30 rfl ?_
      refine rd_Me_depth hx hb hts hown hK hP lk_154 (v := (me_depth (me_stack_s me (upd (me_stack me) (me_depth me).toNatClampNeg a0)))) rfl d_Me_push_31 ?_
      refine lv_iconst (v := 1) hx hb d_Me_push_34 (by decide) ?_
      refine lv_iadd hx hb d_Me_push_35 ?_
      refine wr_Me_depth hx hb hts hown hK hP hD hS lk_154 d_Me_push_36 (fun H locs hP hD hS => ?_)
      refine lv_aload_n hx hb d_Me_push_39 rfl (lv_at hl 0 rfl) ?_
      refine lv_aload_n hx hb d_Me_push_40 rfl (lv_at hl 0 rfl) ?_
      refine rd_Me_deepest hx hb hts hown hK hP lk_155 (v := (me_deepest (me_depth_s (me_stack_s me (upd (me_stack me) (me_depth me).toNatClampNeg a0)) ((me_depth (me_stack_s me (upd (me_stack me) (me_depth me).toNatClampNeg a0))) + (1 : Int32))))) rfl d_Me_push_41 ?_
      refine lv_aload_n hx hb d_Me_push_44 rfl (lv_at hl 0 rfl) ?_
      refine rd_Me_depth hx hb hts hown hK hP lk_154 (v := (me_depth (me_depth_s (me_stack_s me (upd (me_stack me) (me_depth me).toNatClampNeg a0)) ((me_depth (me_stack_s me (upd (me_stack me) (me_depth me).toNatClampNeg a0))) + (1 : Int32))))) rfl d_Me_push_45 ?_
      refine va_mmax hx hb (by rw [hml]; exact hl.1.symm) hown (hts _ lk_548) (hts _ is_Ma_maxI) (hts _ ok_Ma_maxI.2.1) (hts _ ok_Ma_maxI.1) (by decide) (Nat.le_of_ble_eq_true rfl) (Nat.zero_le _) (Nat.zero_le _) d_Me_push_48 ?_
      refine wr_Me_deepest hx hb hts hown hK hP hD hS lk_155 d_Me_push_51 (fun H locs hP hD hS => ?_)
      cases h
      subst hQ
      exact k_vret hx hb hr hlk hP hK hD hS d_Me_push_54
theorem d_Me_emptyStack_0 : decode b_Me_emptyStack 0 = .ok (.aload_n 0, 1) := by decide +kernel
theorem d_Me_emptyStack_1 : decode b_Me_emptyStack 1 = .ok (.iconst 0, 1) := by decide +kernel
theorem d_Me_emptyStack_2 : decode b_Me_emptyStack 2 = .ok (.putfield 27, 3) := by decide +kernel
theorem d_Me_emptyStack_5 : decode b_Me_emptyStack 5 = .ok (.aload_n 0, 1) := by decide +kernel
theorem d_Me_emptyStack_6 : decode b_Me_emptyStack 6 = .ok (.iconst 0, 1) := by decide +kernel
theorem d_Me_emptyStack_7 : decode b_Me_emptyStack 7 = .ok (.putfield 31, 3) := by decide +kernel
theorem d_Me_emptyStack_10 : decode b_Me_emptyStack 10 = .ok (.return_, 1) := by decide +kernel
def r_Me_emptyStack (n : Nat) (me : T_me)  : Option (T_me) := some ((me_deepest_s (me_depth_s me (0 : Int32)) (0 : Int32)))
def rm_Me_emptyStack : Jvm.Room := { frames := 0, cells := 0, slots := 0, locals := 0 }
set_option maxHeartbeats 4000000 in
set_option maxRecDepth 100000 in
theorem c_Me_emptyStack {l : Launch} {D : va_G} {cI cL : ClassId} {ad : Nat → Nat} {ma : T_ma} {ko : T_ko} {sh : T_sh} {lo : T_lo} {de : T_de} {wa : T_wa} {me : T_me} {ru : T_ru} {ws0 : va_W} {sz n : Nat}  {me9 : T_me} (hw : ws0 = (wX cI cL ad ma ko sh lo de wa me ru)) (h : r_Me_emptyStack n me  = some me9) : Met l y_Me_emptyStack (Cond.code y_Me_emptyStack b_Me_emptyStack 1 none :: TB) rm_Me_emptyStack (PreW D clX (tyX cI cL) ws0 [.ref (ad 19)] sz) (PstV D clX (tyX cI cL) ws0 (wX cI cL ad ma ko sh lo de wa (me9) ru) sz) 0 0 (va_A ws0 sz) := by
  refine k_met (by decide) (Nat.le_of_ble_eq_true rfl) ?_
  intro p e s m below meth c ls hx hb hr hml hts hown hlk hnm hsz hP hK hD hA hz hl
  have hP : va_P D clX (wX cI cL ad ma ko sh lo de wa me ru) s.heap := by rw [← hw]; exact hP
  have hD : va_D (va_A ws0 sz) (wX cI cL ad ma ko sh lo de wa me ru) := by rw [← hw]; exact hD
  have hS : va_S (va_A ws0 sz) s.heap s.heap [] := va_S.rf
  have hl : lv_has ls 1 [(0, .ref (ad 19))] := hl
  generalize hQ : MQ below (PstV D clX (tyX cI cL) ws0 (wX cI cL ad ma ko sh lo de wa (me9) ru) sz) [.ref (ad 19)].toArray s 0 0 (va_A ws0 sz) = Q
  unfold r_Me_emptyStack at h
  refine lv_aload_n hx hb d_Me_emptyStack_0 rfl (lv_at hl 0 rfl) ?_
  refine lv_iconst (v := 0) hx hb d_Me_emptyStack_1 (by decide) ?_
  refine wr_Me_depth hx hb hts hown hK hP hD hS lk_154 d_Me_emptyStack_2 (fun H locs hP hD hS => ?_)
  refine lv_aload_n hx hb d_Me_emptyStack_5 rfl (lv_at hl 0 rfl) ?_
  refine lv_iconst (v := 0) hx hb d_Me_emptyStack_6 (by decide) ?_
  refine wr_Me_deepest hx hb hts hown hK hP hD hS lk_155 d_Me_emptyStack_7 (fun H locs hP hD hS => ?_)
  cases h
  subst hQ
  exact k_vret hx hb hr hlk hP hK hD hS d_Me_emptyStack_10
theorem d_Me_clear_0 : decode b_Me_clear 0 = .ok (.aload_n 0, 1) := by decide +kernel
theorem d_Me_clear_1 : decode b_Me_clear 1 = .ok (.getfield 9, 3) := by decide +kernel
theorem d_Me_clear_4 : decode b_Me_clear 4 = .ok (.iconst 0, 1) := by decide +kernel
theorem d_Me_clear_5 : decode b_Me_clear 5 = .ok (.invokestatic 18, 3) := by decide +kernel
theorem d_Me_clear_8 : decode b_Me_clear 8 = .ok (.aload_n 0, 1) := by decide +kernel
theorem d_Me_clear_9 : decode b_Me_clear 9 = .ok (.invokevirtual 24, 3) := by decide +kernel
theorem d_Me_clear_12 : decode b_Me_clear 12 = .ok (.return_, 1) := by decide +kernel
def r_Me_clear (n : Nat) (me : T_me)  : Option (T_me) := (r_Me_emptyStack n (me_cells_s me (fun _ => (0 : Int32)))).bind (fun q1 => some (q1))
def rm_Me_clear : Jvm.Room := { frames := 1, cells := 0, slots := 0, locals := 23 }
set_option maxHeartbeats 4000000 in
set_option maxRecDepth 100000 in
theorem c_Me_clear {l : Launch} {D : va_G} {cI cL : ClassId} {ad : Nat → Nat} {ma : T_ma} {ko : T_ko} {sh : T_sh} {lo : T_lo} {de : T_de} {wa : T_wa} {me : T_me} {ru : T_ru} {ws0 : va_W} {sz n : Nat}  {me9 : T_me} (hw : ws0 = (wX cI cL ad ma ko sh lo de wa me ru)) (h : r_Me_clear n me  = some me9) : Met l y_Me_clear (Cond.code y_Me_clear b_Me_clear 1 none :: TB) rm_Me_clear (PreW D clX (tyX cI cL) ws0 [.ref (ad 19)] sz) (PstV D clX (tyX cI cL) ws0 (wX cI cL ad ma ko sh lo de wa (me9) ru) sz) 0 0 (va_A ws0 sz) := by
  refine k_met (by decide) (Nat.le_of_ble_eq_true rfl) ?_
  intro p e s m below meth c ls hx hb hr hml hts hown hlk hnm hsz hP hK hD hA hz hl
  have hP : va_P D clX (wX cI cL ad ma ko sh lo de wa me ru) s.heap := by rw [← hw]; exact hP
  have hD : va_D (va_A ws0 sz) (wX cI cL ad ma ko sh lo de wa me ru) := by rw [← hw]; exact hD
  have hS : va_S (va_A ws0 sz) s.heap s.heap [] := va_S.rf
  have hl : lv_has ls 1 [(0, .ref (ad 19))] := hl
  generalize hQ : MQ below (PstV D clX (tyX cI cL) ws0 (wX cI cL ad ma ko sh lo de wa (me9) ru) sz) [.ref (ad 19)].toArray s 0 0 (va_A ws0 sz) = Q
  unfold r_Me_clear at h
  refine lv_aload_n hx hb d_Me_clear_0 rfl (lv_at hl 0 rfl) ?_
  refine rd_Me_cells hx hb hts hown hK hP lk_152 d_Me_clear_1 ?_
  refine lv_iconst (v := 0) hx hb d_Me_clear_4 (by decide) ?_
  refine k_V (k_runS ⟨hx, hb, hml, hown, hts⟩ (c_Ar_fillI ar_Me_cells (t0 := 0) rfl) ok_Ar_fillI is_Ar_fillI lk_275 rfl rfl ⟨by decide, by decide⟩ hP hK hD hS hA hz rfl hl.1 rfl (Nat.le_of_ble_eq_true rfl) d_Me_clear_5 ⟨Nat.zero_le _, Nat.zero_le _⟩) hD hS hA (fun H locs hP hD hS => ?_)
  have hP : va_P D clX (wX cI cL ad ma ko sh lo de wa ((me_cells_s me (fun _ => (0 : Int32)))) ru) H := hP
  have hD : va_D (va_A ws0 sz) (wX cI cL ad ma ko sh lo de wa ((me_cells_s me (fun _ => (0 : Int32)))) ru) := hD
  refine lv_aload_n hx hb d_Me_clear_8 rfl (lv_at hl 0 rfl) ?_
  obtain ⟨q1, hq1, h⟩ := Option.bind_eq_some_iff.mp h
  refine k_V (k_runV ⟨hx, hb, hml, hown, hts⟩ (c_Me_emptyStack rfl hq1) ok_Me_emptyStack is_Me_emptyStack lk_278 rfl rfl ⟨by decide, by decide⟩ hP hK hD hS hA hz (ci := 6) (q0 := 19) rfl rfl ob_Me rfl hl.1 rfl (Nat.le_of_ble_eq_true rfl) d_Me_clear_9 ⟨Nat.zero_le _, Nat.zero_le _⟩) hD hS hA (fun H locs hP hD hS => ?_)
  cases h
  subst hQ
  exact k_vret hx hb hr hlk hP hK hD hS d_Me_clear_12
