/-! printed by wip/gen/gen5.py: whole_start out of PureOK -/
set_option maxRecDepth 100000 in
theorem z_TAKEN {s : State} {b : Nat} (htsL : ∀ w ∈ lw_tbl, w.before #[Value.ref b] s = true) (hgv : (Jvm.Cond.and given_1 narrow_1).before #[Value.ref b] s = true) : ∃ t : Nat, va_Z "ScanMachine$Depths" "TAKEN" "[I" (.ref t) (fun q : Nat => s.heap.size ≤ q) s s.heap ∧ va_T .int t 19 (fun j => .int (tkn j)) (fun q : Nat => s.heap.size ≤ q) s s.heap := by
  have hs := flat_of_before _ hgv
  have hA : ∀ a : Nat, a < s.heap.size → ¬ (fun q : Nat => s.heap.size ≤ q) a := fun a h => Nat.not_le.mpr h
  have hel : ∀ j : Nat, j < 19 → (Term.elem (Term.static "ScanMachine$Depths" "TAKEN" "[I") (.int (Int32.ofNat j))).eval #[Value.ref b] s none [] s = some (.int (tkn j)) := fun j hj => by
    match j, hj with
    | 0, _ => exact va_eqt (hs (Cond.eq (.elem (Term.static "ScanMachine$Depths" "TAKEN" "[I") (.int 0)) (.int 0)) (by decide +kernel))
    | 1, _ => exact va_eqt (hs (Cond.eq (.elem (Term.static "ScanMachine$Depths" "TAKEN" "[I") (.int 1)) (.int 0)) (by decide +kernel))
    | 2, _ => exact va_eqt (hs (Cond.eq (.elem (Term.static "ScanMachine$Depths" "TAKEN" "[I") (.int 2)) (.int 1)) (by decide +kernel))
    | 3, _ => exact va_eqt (hs (Cond.eq (.elem (Term.static "ScanMachine$Depths" "TAKEN" "[I") (.int 3)) (.int 1)) (by decide +kernel))
    | 4, _ => exact va_eqt (hs (Cond.eq (.elem (Term.static "ScanMachine$Depths" "TAKEN" "[I") (.int 4)) (.int 2)) (by decide +kernel))
    | 5, _ => exact va_eqt (hs (Cond.eq (.elem (Term.static "ScanMachine$Depths" "TAKEN" "[I") (.int 5)) (.int 0)) (by decide +kernel))
    | 6, _ => exact va_eqt (hs (Cond.eq (.elem (Term.static "ScanMachine$Depths" "TAKEN" "[I") (.int 6)) (.int 1)) (by decide +kernel))
    | 7, _ => exact va_eqt (hs (Cond.eq (.elem (Term.static "ScanMachine$Depths" "TAKEN" "[I") (.int 7)) (.int 2)) (by decide +kernel))
    | 8, _ => exact va_eqt (hs (Cond.eq (.elem (Term.static "ScanMachine$Depths" "TAKEN" "[I") (.int 8)) (.int 1)) (by decide +kernel))
    | 9, _ => exact va_eqt (hs (Cond.eq (.elem (Term.static "ScanMachine$Depths" "TAKEN" "[I") (.int 9)) (.int 3)) (by decide +kernel))
    | 10, _ => exact va_eqt (hs (Cond.eq (.elem (Term.static "ScanMachine$Depths" "TAKEN" "[I") (.int 10)) (.int 0)) (by decide +kernel))
    | 11, _ => exact va_eqt (hs (Cond.eq (.elem (Term.static "ScanMachine$Depths" "TAKEN" "[I") (.int 11)) (.int 1)) (by decide +kernel))
    | 12, _ => exact va_eqt (hs (Cond.eq (.elem (Term.static "ScanMachine$Depths" "TAKEN" "[I") (.int 12)) (.int 0)) (by decide +kernel))
    | 13, _ => exact va_eqt (hs (Cond.eq (.elem (Term.static "ScanMachine$Depths" "TAKEN" "[I") (.int 13)) (.int 0)) (by decide +kernel))
    | 14, _ => exact va_eqt (hs (Cond.eq (.elem (Term.static "ScanMachine$Depths" "TAKEN" "[I") (.int 14)) (.int 0)) (by decide +kernel))
    | 15, _ => exact va_eqt (hs (Cond.eq (.elem (Term.static "ScanMachine$Depths" "TAKEN" "[I") (.int 15)) (.int 0)) (by decide +kernel))
    | 16, _ => exact va_eqt (hs (Cond.eq (.elem (Term.static "ScanMachine$Depths" "TAKEN" "[I") (.int 16)) (.int 0)) (by decide +kernel))
    | 17, _ => exact va_eqt (hs (Cond.eq (.elem (Term.static "ScanMachine$Depths" "TAKEN" "[I") (.int 17)) (.int 0)) (by decide +kernel))
    | 18, _ => exact va_eqt (hs (Cond.eq (.elem (Term.static "ScanMachine$Depths" "TAKEN" "[I") (.int 18)) (.int 0)) (by decide +kernel))
    | j + 19, h => exact absurd h (by omega)
  obtain ⟨t, h1, h2⟩ := va_Tof (N := 19) (f := fun j => .int (tkn j)) (tm := (Term.static "ScanMachine$Depths" "TAKEN" "[I")) (A := fun q : Nat => s.heap.size ≤ q) (by decide) (hs (Cond.arrayOf (Term.static "ScanMachine$Depths" "TAKEN" "[I") .int) (by decide +kernel)) (va_eqt (hs (Cond.eq (.length (Term.static "ScanMachine$Depths" "TAKEN" "[I")) (.int 19)) (by decide +kernel))) hel hA
  exact ⟨t, va_Zof (htsL (Cond.laysStatic "ScanMachine$Depths" "TAKEN" "[I") (lt_s2 228 (by decide +kernel))) (htsL (Cond.initialized "ScanMachine$Depths") (lt_s1 5 (by decide +kernel))) h1 hA, h2⟩
set_option maxRecDepth 100000 in
theorem z_LEFT {s : State} {b : Nat} (htsL : ∀ w ∈ lw_tbl, w.before #[Value.ref b] s = true) (hgv : (Jvm.Cond.and given_1 narrow_1).before #[Value.ref b] s = true) : ∃ t : Nat, va_Z "ScanMachine$Depths" "LEFT" "[I" (.ref t) (fun q : Nat => s.heap.size ≤ q) s s.heap ∧ va_T .int t 19 (fun j => .int (lft j)) (fun q : Nat => s.heap.size ≤ q) s s.heap := by
  have hs := flat_of_before _ hgv
  have hA : ∀ a : Nat, a < s.heap.size → ¬ (fun q : Nat => s.heap.size ≤ q) a := fun a h => Nat.not_le.mpr h
  have hel : ∀ j : Nat, j < 19 → (Term.elem (Term.static "ScanMachine$Depths" "LEFT" "[I") (.int (Int32.ofNat j))).eval #[Value.ref b] s none [] s = some (.int (lft j)) := fun j hj => by
    match j, hj with
    | 0, _ => exact va_eqt (hs (Cond.eq (.elem (Term.static "ScanMachine$Depths" "LEFT" "[I") (.int 0)) (.int 1)) (by decide +kernel))
    | 1, _ => exact va_eqt (hs (Cond.eq (.elem (Term.static "ScanMachine$Depths" "LEFT" "[I") (.int 1)) (.int 1)) (by decide +kernel))
    | 2, _ => exact va_eqt (hs (Cond.eq (.elem (Term.static "ScanMachine$Depths" "LEFT" "[I") (.int 2)) (.int 0)) (by decide +kernel))
    | 3, _ => exact va_eqt (hs (Cond.eq (.elem (Term.static "ScanMachine$Depths" "LEFT" "[I") (.int 3)) (.int 1)) (by decide +kernel))
    | 4, _ => exact va_eqt (hs (Cond.eq (.elem (Term.static "ScanMachine$Depths" "LEFT" "[I") (.int 4)) (.int 0)) (by decide +kernel))
    | 5, _ => exact va_eqt (hs (Cond.eq (.elem (Term.static "ScanMachine$Depths" "LEFT" "[I") (.int 5)) (.int 1)) (by decide +kernel))
    | 6, _ => exact va_eqt (hs (Cond.eq (.elem (Term.static "ScanMachine$Depths" "LEFT" "[I") (.int 6)) (.int 0)) (by decide +kernel))
    | 7, _ => exact va_eqt (hs (Cond.eq (.elem (Term.static "ScanMachine$Depths" "LEFT" "[I") (.int 7)) (.int 1)) (by decide +kernel))
    | 8, _ => exact va_eqt (hs (Cond.eq (.elem (Term.static "ScanMachine$Depths" "LEFT" "[I") (.int 8)) (.int 1)) (by decide +kernel))
    | 9, _ => exact va_eqt (hs (Cond.eq (.elem (Term.static "ScanMachine$Depths" "LEFT" "[I") (.int 9)) (.int 1)) (by decide +kernel))
    | 10, _ => exact va_eqt (hs (Cond.eq (.elem (Term.static "ScanMachine$Depths" "LEFT" "[I") (.int 10)) (.int 0)) (by decide +kernel))
    | 11, _ => exact va_eqt (hs (Cond.eq (.elem (Term.static "ScanMachine$Depths" "LEFT" "[I") (.int 11)) (.int 0)) (by decide +kernel))
    | 12, _ => exact va_eqt (hs (Cond.eq (.elem (Term.static "ScanMachine$Depths" "LEFT" "[I") (.int 12)) (.int 0)) (by decide +kernel))
    | 13, _ => exact va_eqt (hs (Cond.eq (.elem (Term.static "ScanMachine$Depths" "LEFT" "[I") (.int 13)) (.int 0)) (by decide +kernel))
    | 14, _ => exact va_eqt (hs (Cond.eq (.elem (Term.static "ScanMachine$Depths" "LEFT" "[I") (.int 14)) (.int 0)) (by decide +kernel))
    | 15, _ => exact va_eqt (hs (Cond.eq (.elem (Term.static "ScanMachine$Depths" "LEFT" "[I") (.int 15)) (.int 0)) (by decide +kernel))
    | 16, _ => exact va_eqt (hs (Cond.eq (.elem (Term.static "ScanMachine$Depths" "LEFT" "[I") (.int 16)) (.int 0)) (by decide +kernel))
    | 17, _ => exact va_eqt (hs (Cond.eq (.elem (Term.static "ScanMachine$Depths" "LEFT" "[I") (.int 17)) (.int 0)) (by decide +kernel))
    | 18, _ => exact va_eqt (hs (Cond.eq (.elem (Term.static "ScanMachine$Depths" "LEFT" "[I") (.int 18)) (.int 0)) (by decide +kernel))
    | j + 19, h => exact absurd h (by omega)
  obtain ⟨t, h1, h2⟩ := va_Tof (N := 19) (f := fun j => .int (lft j)) (tm := (Term.static "ScanMachine$Depths" "LEFT" "[I")) (A := fun q : Nat => s.heap.size ≤ q) (by decide) (hs (Cond.arrayOf (Term.static "ScanMachine$Depths" "LEFT" "[I") .int) (by decide +kernel)) (va_eqt (hs (Cond.eq (.length (Term.static "ScanMachine$Depths" "LEFT" "[I")) (.int 19)) (by decide +kernel))) hel hA
  exact ⟨t, va_Zof (htsL (Cond.laysStatic "ScanMachine$Depths" "LEFT" "[I") (lt_s2 230 (by decide +kernel))) (htsL (Cond.initialized "ScanMachine$Depths") (lt_s1 5 (by decide +kernel))) h1 hA, h2⟩
theorem nw_law {s : State} {b : Nat} (htsL : ∀ w ∈ lw_tbl, w.before #[Value.ref b] s = true) : nw s := fun w hw => by
  have h1 := htsL w (List.mem_filter.mp hw).1
  have h2 := (List.mem_filter.mp hw).2
  cases w <;> first | exact va_Nw.of rfl h1 | (exact absurd h2 (by simp [isNest]))
theorem arr_cls {s : State} {b : Nat} {ty : FieldType} (h : (Cond.arrayClass ty).before #[Value.ref b] s = true) : ∃ cA : ClassId, ArrOfT s cA ty ∧ s.vm.findClass ("[" ++ ty.toString) = some cA := by
  obtain ⟨cA, kA, comp, h1, h2, h3⟩ := Cond.arrayClass_spec h
  exact ⟨cA, fun n z => ⟨fun k h => (by cases h), kA, h2, comp, h3⟩, h1⟩
theorem vP_l {D : va_G} {cl : List vw_C} {a b : va_W} {H : Heap} (h : va_P D cl (a ++ b) H) : va_P D cl a H := fun k q hq => h k q (by rw [List.getElem?_append_left (List.getElem?_eq_some_iff.mp hq).1]; exact hq)
theorem vP_r {D : va_G} {cl : List vw_C} {a b : va_W} {H : Heap} (h : va_P D cl (a ++ b) H) : va_P D cl b H := fun k q hq => h (a.length + k) q (by rw [List.getElem?_append_right (Nat.le_add_right _ _), Nat.add_sub_cancel_left]; exact hq)
theorem vD_l {A : Nat → Prop} {a b : va_W} (h : va_D A (a ++ b)) : va_D A a := by
  have key : ∀ (k : Nat) (q : Nat × va_E), a[k]? = some q → (a ++ b)[k]? = some q := fun k q hq => by rw [List.getElem?_append_left (List.getElem?_eq_some_iff.mp hq).1]; exact hq
  exact ⟨fun i j p q hp hq e => h.1 i j p q (key i p hp) (key j q hq) e, fun k q hq => h.2 k q (key k q hq)⟩
theorem vD_r {A : Nat → Prop} {a b : va_W} (h : va_D A (a ++ b)) : va_D A b := by
  have key : ∀ (k : Nat) (q : Nat × va_E), b[k]? = some q → (a ++ b)[a.length + k]? = some q := fun k q hq => by rw [List.getElem?_append_right (Nat.le_add_right _ _), Nat.add_sub_cancel_left]; exact hq
  exact ⟨fun i j p q hp hq e => by have := h.1 _ _ p q (key i p hp) (key j q hq) e; omega, fun k q hq => h.2 _ q (key k q hq)⟩
theorem vD_x {A : Nat → Prop} {a b : va_W} (h : va_D A (a ++ b)) {i j : Nat} {p q : Nat × va_E} (hp : a[i]? = some p) (hq : b[j]? = some q) : p.1 ≠ q.1 := fun e => by
  have hi := (List.getElem?_eq_some_iff.mp hp).1
  have := h.1 i (a.length + j) p q (by rw [List.getElem?_append_left hi]; exact hp) (by rw [List.getElem?_append_right (Nat.le_add_right _ _), Nat.add_sub_cancel_left]; exact hq) e
  omega
theorem wX_has {cI cL : ClassId} {ad : Nat → Nat} {ma : T_ma} {ko : T_ko} {sh : T_sh} {lo : T_lo} {de : T_de} {wa : T_wa} {me : T_me} {ru : T_ru} {k : Nat} (hk : k < 27) : ∃ e, (wX cI cL ad ma ko sh lo de wa me ru)[k]? = some (ad k, e) := by
  match k, hk with
  | 0, _ => exact ⟨_, rfl⟩
  | 1, _ => exact ⟨_, rfl⟩
  | 2, _ => exact ⟨_, rfl⟩
  | 3, _ => exact ⟨_, rfl⟩
  | 4, _ => exact ⟨_, rfl⟩
  | 5, _ => exact ⟨_, rfl⟩
  | 6, _ => exact ⟨_, rfl⟩
  | 7, _ => exact ⟨_, rfl⟩
  | 8, _ => exact ⟨_, rfl⟩
  | 9, _ => exact ⟨_, rfl⟩
  | 10, _ => exact ⟨_, rfl⟩
  | 11, _ => exact ⟨_, rfl⟩
  | 12, _ => exact ⟨_, rfl⟩
  | 13, _ => exact ⟨_, rfl⟩
  | 14, _ => exact ⟨_, rfl⟩
  | 15, _ => exact ⟨_, rfl⟩
  | 16, _ => exact ⟨_, rfl⟩
  | 17, _ => exact ⟨_, rfl⟩
  | 18, _ => exact ⟨_, rfl⟩
  | 19, _ => exact ⟨_, rfl⟩
  | 20, _ => exact ⟨_, rfl⟩
  | 21, _ => exact ⟨_, rfl⟩
  | 22, _ => exact ⟨_, rfl⟩
  | 23, _ => exact ⟨_, rfl⟩
  | 24, _ => exact ⟨_, rfl⟩
  | 25, _ => exact ⟨_, rfl⟩
  | 26, _ => exact ⟨_, rfl⟩
  | k + 27, hk => exact absurd hk (by omega)
theorem wM_has {cI cL : ClassId} {ad : Nat → Nat} {mc : T_mc} {mq : T_mq} {mr : T_mr} {k : Nat} (hk : k < 17) : ∃ e, (wM cI cL ad mc mq mr)[k]? = some (ad k, e) := by
  match k, hk with
  | 0, _ => exact ⟨_, rfl⟩
  | 1, _ => exact ⟨_, rfl⟩
  | 2, _ => exact ⟨_, rfl⟩
  | 3, _ => exact ⟨_, rfl⟩
  | 4, _ => exact ⟨_, rfl⟩
  | 5, _ => exact ⟨_, rfl⟩
  | 6, _ => exact ⟨_, rfl⟩
  | 7, _ => exact ⟨_, rfl⟩
  | 8, _ => exact ⟨_, rfl⟩
  | 9, _ => exact ⟨_, rfl⟩
  | 10, _ => exact ⟨_, rfl⟩
  | 11, _ => exact ⟨_, rfl⟩
  | 12, _ => exact ⟨_, rfl⟩
  | 13, _ => exact ⟨_, rfl⟩
  | 14, _ => exact ⟨_, rfl⟩
  | 15, _ => exact ⟨_, rfl⟩
  | 16, _ => exact ⟨_, rfl⟩
  | k + 17, hk => exact absurd hk (by omega)
set_option maxHeartbeats 8000000 in
set_option maxRecDepth 100000 in
theorem whole_from {NF : Nat} {Rel : RelT} (hp : PureOK NF Rel) {p : Program} {e : Env} {s : State} {m : MethodId} {below : List Frame} {meth : Method} {c : Code} (l : Launch) {b L : Nat} {xs : Nat → Int32} (hL : L ≤ 2560) (C0 : lw_At p s m meth c b L xs) : W p l e room_1 s m #[Value.ref b] below meth c s.heap [] 0 0 (lw_Z below #[Value.ref b] s) (entryFrame m ([Value.ref b] : List Value).toArray 4) := by
  obtain ⟨hx, hb, hr, hml, hown, htsL, hX, hbl, hlocks, hgv⟩ := id C0
  have hown : s.vm.findClass "ScanMachineLaw" = some m.cls := hown
  have hts : ∀ w ∈ TB, w.before #[Value.ref b] s = true := fun w h => htsL w (tb_in h)
  have hA : ∀ q : Nat, s.heap.size ≤ q → (fun q : Nat => s.heap.size ≤ q) q := fun _ h => h
  obtain ⟨c0, iS0, hKn0⟩ := u_known (C := "ScanMachine") (T := T_Sm_) (N := 13) (n := 13) hts in_Sm (hts _ lk_15)
  obtain ⟨c1, iS1, hKn1⟩ := u_known (C := "ScanMachine$Code") (T := T_Co_) (N := 10) (n := 10) hts in_Co (hts _ lk_23)
  obtain ⟨c2, iS2, hKn2⟩ := u_known (C := "ScanMachine$Shape") (T := T_Sh_) (N := 7) (n := 7) hts in_Sh (hts _ lk_61)
  obtain ⟨c3, iS3, hKn3⟩ := u_known (C := "ScanMachine$Loops") (T := T_Lo_) (N := 4) (n := 4) hts in_Lo (hts _ lk_89)
  obtain ⟨c4, iS4, hKn4⟩ := u_known (C := "ScanMachine$Depths") (T := T_De_) (N := 2) (n := 2) hts in_De (hts _ lk_108)
  obtain ⟨c5, iS5, hKn5⟩ := u_known (C := "ScanMachine$Ways") (T := T_Wa_) (N := 6) (n := 6) hts in_Wa (hts _ lk_121)
  obtain ⟨c6, iS6, hKn6⟩ := u_known (C := "ScanMachine$Memory") (T := T_Me_) (N := 4) (n := 4) hts in_Me (hts _ lk_147)
  obtain ⟨c7, iS7, hKn7⟩ := u_known (C := "ScanMachine$Runner") (T := T_Ru_) (N := 13) (n := 13) hts in_Ru (hts _ lk_167)
  obtain ⟨c8, iS8, hKn8⟩ := u_known (C := "ScanMachine$Blocks") (T := T_Bl_) (N := 1) (n := 1) hts in_Bl (hts _ lk_173)
  obtain ⟨c9, iS9, hKn9⟩ := u_known (C := "ScanMachineModel") (T := T_Mo_) (N := 28) (n := 28) hts in_Mo (hts _ lk_674)
  obtain ⟨D, hKc⟩ : ∃ D : va_G, ∀ (k : Nat) (q : vw_C), clX[k]? = some q → u_Kn s q.1 q.2.1 q.2.2 (D.1 k) (D.2 k) := by
    refine ⟨(fun k => match k with | 0 => c0 | 1 => c1 | 2 => c2 | 3 => c3 | 4 => c4 | 5 => c5 | 6 => c6 | 7 => c7 | 8 => c8 | _ => c9, fun k => match k with | 0 => iS0 | 1 => iS1 | 2 => iS2 | 3 => iS3 | 4 => iS4 | 5 => iS5 | 6 => iS6 | 7 => iS7 | 8 => iS8 | _ => iS9), ?_⟩
    intro k q hq
    have hk : k < 10 := (List.getElem?_eq_some_iff.mp hq).1
    match k, hk, hq with
    | 0, _, hq => exact (Option.some.inj hq) ▸ hKn0
    | 1, _, hq => exact (Option.some.inj hq) ▸ hKn1
    | 2, _, hq => exact (Option.some.inj hq) ▸ hKn2
    | 3, _, hq => exact (Option.some.inj hq) ▸ hKn3
    | 4, _, hq => exact (Option.some.inj hq) ▸ hKn4
    | 5, _, hq => exact (Option.some.inj hq) ▸ hKn5
    | 6, _, hq => exact (Option.some.inj hq) ▸ hKn6
    | 7, _, hq => exact (Option.some.inj hq) ▸ hKn7
    | 8, _, hq => exact (Option.some.inj hq) ▸ hKn8
    | 9, _, hq => exact (Option.some.inj hq) ▸ hKn9
    | k + 10, hk, _ => exact absurd hk (by omega)
  obtain ⟨cI, hI1, hI2⟩ := arr_cls (hts _ lk_59)
  obtain ⟨cL, hL1, hL2⟩ := arr_cls (hts _ lk_145)
  have hK : va_K D clX (tyX cI cL) s := ⟨hKc, fun k q h => by
    have hk : k < 2 := (List.getElem?_eq_some_iff.mp h).1
    match k, hk, h with
    | 0, _, h => cases h; exact ⟨hI1, hI2⟩
    | 1, _, h => cases h; exact ⟨hL1, hL2⟩
    | k + 2, hk, _ => exact absurd hk (by omega)⟩
  obtain ⟨t1, z1, z2⟩ := z_TAKEN htsL hgv
  obtain ⟨t2, z3, z4⟩ := z_LEFT htsL hgv
  have hz : zt (fun q : Nat => s.heap.size ≤ q) s := ⟨nw_law htsL, t1, t2, z1, z2, z3, z4⟩
  have hS : va_S (fun q : Nat => s.heap.size ≤ q) s.heap s.heap [] := va_S.rf
  have hP : va_P D clX [] s.heap := fun k q h => by simp at h
  have hD : va_D (fun q : Nat => s.heap.size ≤ q) [] := ⟨fun i j p q h => by simp at h, fun k q h => by simp at h⟩
  have hl := lv_entry ([.ref b]) (n := 4) (Nat.le_of_ble_eq_true rfl)
  rw [lg_entry_eq]
  generalize (lg_sl ([.ref b]) ++ List.replicate (4 - (lg_sl ([.ref b])).length) Slot.unset).toArray = ls at hl ⊢
  have hl : lv_has ls 4 [(0, .ref b)] := hl
  refine va_new (ci := 0) (fs := [.null, .null, .null, .null, .null, .null, .null, .int 0, .int 0, .int 0, .int 0, .int 0, .int 0]) (C := "ScanMachine") (T := T_Sm_) (N := 13) hx hb hts in_Sm ty_Sm tyok_Sm hown (hts _ lk_14) (hts _ lk_15) (hts _ ok_Sm_init.2.1) hK hP hD hS hA rfl (fun j hj => by rcases (show j = 0 ∨ j = 1 ∨ j = 2 ∨ j = 3 ∨ j = 4 ∨ j = 5 ∨ j = 6 ∨ j = 7 ∨ j = 8 ∨ j = 9 ∨ j = 10 ∨ j = 11 ∨ j = 12 by omega) with rfl | rfl | rfl | rfl | rfl | rfl | rfl | rfl | rfl | rfl | rfl | rfl | rfl <;> rfl) (by decide) (by decide) d_law_0 (fun q0 H hP hD hS => ?_)
  have hP : va_P D clX [(q0, .inr (0, [.null, .null, .null, .null, .null, .null, .null, .int 0, .int 0, .int 0, .int 0, .int 0, .int 0]))] H := hP
  have hD : va_D (fun q : Nat => s.heap.size ≤ q) [(q0, .inr (0, [.null, .null, .null, .null, .null, .null, .null, .int 0, .int 0, .int 0, .int 0, .int 0, .int 0]))] := hD
  refine W.widen (k := 1) (n := 13) (by decide) (by decide) ?_
  refine lv_dup hx hb d_law_3 rfl ?_
  refine k_VC (wr := []) (va_runI ⟨hx, hb, hml, hown, hts⟩ (c_Sm_init (h0 := q0)) (cwI 0 hts (gd_in ok_Sm_init.1) rfl rfl rfl (hts _ ok_Sm_init.2.1) (hts _ lk_16) (hts _ is_Sm_init) rfl ⟨ok_Sm_init.2.2.1, ok_Sm_init.2.2.2.1, ok_Sm_init.2.2.2.2⟩ ⟨by decide, by decide⟩) ⟨PreW.blind, PreW.at hP hK hD hS hA hz⟩ rfl rfl hl.1 rfl (lv_room (Nat.le_of_ble_eq_true rfl)) d_law_4 ⟨by decide, by decide⟩) hP hD hS hA [0] [] rfl rfl (by decide) (by decide) (fun u H locs huu hP hD hS => ?_)
  have hP : va_P D clX (wX cI cL u ma0 ko0 sh0 lo0 de0 wa0 me0 ru0) H := hP
  have hD : va_D (fun q : Nat => s.heap.size ≤ q) (wX cI cL u ma0 ko0 sh0 lo0 de0 wa0 me0 ru0) := hD
  refine W.widen (k := 27) (n := 7358) (by decide) (by decide) ?_
  refine lv_astore_n (lv' := [(1, .ref q0), (0, .ref b)]) hx hb d_law_7 rfl hl (by decide) rfl (fun ls hl => ?_)
  refine va_new (ci := 9) (fs := [.int 0, .null, .int 0, .null, .null, .null, .int 0, .null, .null, .null, .null, .int 0, .int 0, .null, .null, .null, .null, .int 0, .int 0, .int 0, .int 0, .int 0, .int 0, .null, .int 0, .null, .null, .null]) (C := "ScanMachineModel") (T := T_Mo_) (N := 28) hx hb hts in_Mo ty_Mo tyok_Mo hown (hts _ lk_673) (hts _ lk_674) (hts _ ok_Mo_init.2.1) hK hP hD hS hA rfl (fun j hj => by rcases (show j = 0 ∨ j = 1 ∨ j = 2 ∨ j = 3 ∨ j = 4 ∨ j = 5 ∨ j = 6 ∨ j = 7 ∨ j = 8 ∨ j = 9 ∨ j = 10 ∨ j = 11 ∨ j = 12 ∨ j = 13 ∨ j = 14 ∨ j = 15 ∨ j = 16 ∨ j = 17 ∨ j = 18 ∨ j = 19 ∨ j = 20 ∨ j = 21 ∨ j = 22 ∨ j = 23 ∨ j = 24 ∨ j = 25 ∨ j = 26 ∨ j = 27 by omega) with rfl | rfl | rfl | rfl | rfl | rfl | rfl | rfl | rfl | rfl | rfl | rfl | rfl | rfl | rfl | rfl | rfl | rfl | rfl | rfl | rfl | rfl | rfl | rfl | rfl | rfl | rfl | rfl <;> rfl) (by decide) (by decide) d_law_8 (fun q1 H hP hD hS => ?_)
  refine W.widen (k := 28) (n := 7386) (by decide) (by decide) ?_
  refine lv_dup hx hb d_law_11 rfl ?_
  have hPc : va_P D clX [(q1, .inr (9, [.int 0, .null, .int 0, .null, .null, .null, .int 0, .null, .null, .null, .null, .int 0, .int 0, .null, .null, .null, .null, .int 0, .int 0, .int 0, .int 0, .int 0, .int 0, .null, .int 0, .null, .null, .null]))] H := vP_r hP
  have hDc : va_D (fun q : Nat => s.heap.size ≤ q) [(q1, .inr (9, [.int 0, .null, .int 0, .null, .null, .null, .int 0, .null, .null, .null, .null, .int 0, .int 0, .null, .null, .null, .null, .int 0, .int 0, .int 0, .int 0, .int 0, .int 0, .null, .int 0, .null, .null, .null]))] := vD_r hD
  obtain ⟨⟨r, mc', mr', hbg, hRel⟩, -⟩ := id hp
  refine k_VC (wr := (wX cI cL u ma0 ko0 sh0 lo0 de0 wa0 me0 ru0)) (va_runI ⟨hx, hb, hml, hown, hts⟩ (c_Mo_init (h0 := q1) hbg) (cwI 0 hts (gd_in ok_Mo_init.1) rfl rfl rfl (hts _ ok_Mo_init.2.1) (hts _ lk_675) (hts _ is_Mo_init) rfl ⟨ok_Mo_init.2.2.1, ok_Mo_init.2.2.2.1, ok_Mo_init.2.2.2.2⟩ ⟨by decide, by decide⟩) ⟨PreW.blind, PreW.at hPc hK hDc hS hA hz⟩ rfl rfl hl.1 rfl (lv_room (Nat.le_of_ble_eq_true rfl)) d_law_12 ⟨by decide, by decide⟩) hP hD hS hA [27] [0, 1, 2, 3, 4, 5, 6, 7, 8, 9, 10, 11, 12, 13, 14, 15, 16, 17, 18, 19, 20, 21, 22, 23, 24, 25, 26] rfl rfl (by decide) (by decide) (fun v H locs huv hP hD hS => ?_)
  refine W.widen (k := 44) (n := 15449) (by decide) (by decide) ?_
  refine lv_astore_n (lv' := [(2, .ref q1), (1, .ref q0), (0, .ref b)]) hx hb d_law_15 rfl hl (by decide) rfl (fun ls hl => ?_)
  refine lv_iconst (v := 0) hx hb d_law_16 (by decide) ?_
  refine lv_istore_n (lv' := [(3, .int 0), (2, .ref q1), (1, .ref q0), (0, .ref b)]) hx hb d_law_17 rfl hl (by decide) rfl (fun ls hl => ?_)
  have hdj : dj2 u v := fun i j hi hj => by
    obtain ⟨e1, h1⟩ := wX_has (cI := cI) (cL := cL) (ad := u) (ma := ma0) (ko := ko0) (sh := sh0) (lo := lo0) (de := de0) (wa := wa0) (me := me0) (ru := ru0) hi
    obtain ⟨e2, h2⟩ := wM_has (cI := cI) (cL := cL) (ad := v) (mc := mc') (mq := mq0) (mr := mr') hj
    exact vD_x hD h1 h2
  have e1 : q0 = u 0 := huu.symm
  have e2 : q1 = v 0 := huv.symm
  have hl := lv_sub hl [3, 2, 1, 0] (l' := [(0, .ref b), (1, .ref q0), (2, .ref q1), (3, .int 0)]) rfl
  rw [e1, e2] at hl
  exact law_loop hp hL C0 hK hz hdj (L + 1) 0 (Nat.zero_le L) (by omega) _ _ _ _ _ _ _ _ _ _ _ hRel _ _ ls (vP_l hP) (vP_r hP) (vD_l hD) (vD_r hD) hS hl
