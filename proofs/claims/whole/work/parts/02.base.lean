/-! the base: words, the statics, a contract's start and end, calls, guards -/
def TB : List Cond := lw_tbl.filter goodWord
theorem tb_good {w : Cond} (h : w ∈ TB) : goodWord w = true := (List.mem_filter.mp h).2
theorem tb_in {w : Cond} (h : w ∈ TB) : w ∈ lw_tbl := (List.mem_filter.mp h).1
theorem tb_at {w : Cond} (h : w ∈ lw_tbl) (hg : goodWord w = true) : w ∈ TB := List.mem_filter.mpr ⟨h, hg⟩
theorem lt_s0 {w : Cond} (i : Nat) (h : (k2_sels lw_privs)[i]? = some w) : w ∈ lw_tbl := List.mem_append_left _ (List.mem_of_getElem? h)
theorem lt_t {w : Cond} (h : w ∈ tables_1) : w ∈ lw_tbl := List.mem_append_right _ h
theorem lt_s1 {w : Cond} (i : Nat) (h : tables_1_1[i]? = some w) : w ∈ lw_tbl := lt_t (List.mem_append_left _ (List.mem_of_getElem? h))
theorem lt_s2 {w : Cond} (i : Nat) (h : tables_1_2[i]? = some w) : w ∈ lw_tbl := lt_t (List.mem_append_right _ (List.mem_append_left _ (List.mem_of_getElem? h)))
theorem lt_s3 {w : Cond} (i : Nat) (h : tables_1_3[i]? = some w) : w ∈ lw_tbl := lt_t (List.mem_append_right _ (List.mem_append_right _ (List.mem_append_left _ (List.mem_of_getElem? h))))
theorem lt_s4 {w : Cond} (i : Nat) (h : tables_1_4[i]? = some w) : w ∈ lw_tbl := lt_t (List.mem_append_right _ (List.mem_append_right _ (List.mem_append_right _ (List.mem_append_left _ (List.mem_of_getElem? h)))))
theorem lt_s5 {w : Cond} (i : Nat) (h : tables_1_5[i]? = some w) : w ∈ lw_tbl := lt_t (List.mem_append_right _ (List.mem_append_right _ (List.mem_append_right _ (List.mem_append_right _ (List.mem_of_getElem? h)))))
def isNest : Cond → Bool
  | .methodLinkNest _ _ _ _ => true
  | .fieldLinkNest _ _ _ _ _ _ => true
  | _ => false
def NWL : List Cond := lw_tbl.filter isNest
theorem nw_at {w : Cond} (h : w ∈ lw_tbl) (hg : isNest w = true) : w ∈ NWL := List.mem_filter.mpr ⟨h, hg⟩
/-- the links among nest mates, as a state has them -/
def nw (U : State) : Prop := ∀ w ∈ NWL, va_Nw w U
theorem nw_warm {s U : State} (hW : s.WarmedH U.vm) (h : nw s) : nw U := fun w hw => by
  have h1 := h w hw
  have h2 := (List.mem_filter.mp hw).2
  cases w <;> first | exact va_Nw.warmM hW h1 | exact va_Nw.warmF hW h1 | (exact absurd h2 (by simp [isNest]))
theorem nw_same {s U : State} (hv : s.vm = U.vm) (h : nw s) : nw U := fun w hw => by
  have h1 := h w hw
  have h2 := (List.mem_filter.mp hw).2
  cases w <;> first | exact va_Nw.same rfl hv h1 | (exact absurd h2 (by simp [isNest]))
theorem gd_in {y : MethodName} {b : ByteArray} {n : Nat} {r : Option FieldType} (h : Cond.code y b n r ∈ TB) : GoodIn TB (Cond.code y b n r :: TB) := fun w hw => by
  rcases List.mem_cons.mp hw with rfl | hw
  · exact ⟨h, good_of_word (tb_good h)⟩
  · exact ⟨hw, good_of_word (tb_good hw)⟩
def tknL : List Int32 := [0, 0, 1, 1, 2, 0, 1, 2, 1, 3, 0, 1, 0, 0, 0, 0, 0, 0, 0]
def lftL : List Int32 := [1, 1, 0, 1, 0, 1, 0, 1, 1, 1, 0, 0, 0, 0, 0, 0, 0, 0, 0]
def tkn (j : Nat) : Int32 := tknL.getD j 0
def lft (j : Nat) : Int32 := lftL.getD j 0
def zt (A : Nat → Prop) (U : State) : Prop := nw U ∧ ∃ t1 t2 : Nat, va_Z "ScanMachine$Depths" "TAKEN" "[I" (.ref t1) A U U.heap ∧ va_T .int t1 19 (fun j => .int (tkn j)) A U U.heap ∧ va_Z "ScanMachine$Depths" "LEFT" "[I" (.ref t2) A U U.heap ∧ va_T .int t2 19 (fun j => .int (lft j)) A U U.heap
theorem zt_to {A B : Nat → Prop} {s U : State} {H : Heap} {locs : List Loc} (hz : zt A s) (hS : va_S A s.heap H locs) (hAB : ∀ q, B q → A q) (hU : U.heap = H) (hW : s.WarmedH U.vm) : zt B U := by
  subst hU
  have hvm := hW.alike
  obtain ⟨hn, t1, t2, a, b, c, d⟩ := hz
  exact ⟨nw_warm hW hn, t1, t2, ((a.kept hS.2.1).moved hvm).narrow hAB, ((b.kept hS.2.1).moved hvm).narrow hAB, ((c.kept hS.2.1).moved hvm).narrow hAB, ((d.kept hS.2.1).moved hvm).narrow hAB⟩
def PreW (D : va_G) (cl : List vw_C) (tys : List (ClassId × FieldType)) (ws : va_W) (av : List Value) (sz : Nat) : Array Value → State → Prop :=
  va_Pc av (fun U => U.heap.size = sz ∧ va_P D cl ws U.heap ∧ va_K D cl tys U ∧ va_D (fun _ => True) ws ∧ zt (va_A ws sz) U)
def PstI (D : va_G) (cl : List vw_C) (tys : List (ClassId × FieldType)) (ws ws' : va_W) (sz : Nat) (r : Int32) : Array Value → State → Outcome → State → Prop :=
  va_Qi (fun (x : Int32) (_ : Unit) => x = r) (fun _ t => va_P D cl ws' t.heap ∧ va_K D cl tys t ∧ va_D (va_A ws sz) ws') (va_A ws sz)
def PstL (D : va_G) (cl : List vw_C) (tys : List (ClassId × FieldType)) (ws ws' : va_W) (sz : Nat) (r : Int64) : Array Value → State → Outcome → State → Prop :=
  va_Ql (fun (x : Int64) (_ : Unit) => x = r) (fun _ t => va_P D cl ws' t.heap ∧ va_K D cl tys t ∧ va_D (va_A ws sz) ws') (va_A ws sz)
def PstV (D : va_G) (cl : List vw_C) (tys : List (ClassId × FieldType)) (ws ws' : va_W) (sz : Nat) : Array Value → State → Outcome → State → Prop :=
  va_Qv (fun (_ : Unit) => True) (fun _ t => va_P D cl ws' t.heap ∧ va_K D cl tys t ∧ va_D (va_A ws sz) ws') (va_A ws sz)
theorem PreW.blind {D : va_G} {cl : List vw_C} {tys : List (ClassId × FieldType)} {ws : va_W} {av : List Value} {sz : Nat} : FrameBlind (PreW D cl tys ws av sz) := fun a U g mk q => by
  obtain ⟨q0, q1, qP, qK, qD, hn, t1, t2, za, zb, zc, zd⟩ := q
  have hv : U.vm.Alike (U.calling g mk a).vm := Vm.Alike.refl U.vm
  exact ⟨q0, q1, qP, va_K.moved hv qK, qD, nw_same (s := U) (U := U.calling g mk a) rfl hn, t1, t2, za.moved hv, zb.moved hv, zc.moved hv, zd.moved hv⟩
theorem k_free {A : Nat → Prop} {ws : va_W} {H0 H : Heap} {locs : List Loc} (hD : va_D A ws) (hS : va_S A H0 H locs) (hA : ∀ q, H0.size ≤ q → A q) : ∀ q, va_A ws H.size q → A q := fun q h => by
  rcases h with ⟨k, e, h⟩ | h
  · exact hD.2 k _ h
  · exact hA q (Nat.le_trans hS.1 h)
theorem PreW.at {D : va_G} {cl : List vw_C} {tys : List (ClassId × FieldType)} {ws : va_W} {av : List Value} {A : Nat → Prop} {s : State} {H : Heap} {locs : List Loc} (hP : va_P D cl ws H) (hK : va_K D cl tys s) (hD : va_D A ws) (hS : va_S A s.heap H locs) (hA : ∀ q, s.heap.size ≤ q → A q) (hz : zt A s) :
    ∀ U : State, U.heap = H → s.WarmedH U.vm → PreW D cl tys ws av H.size av.toArray U := fun U hU hW =>
  ⟨rfl, by rw [hU], by rw [hU]; exact hP, va_K.moved hW.alike hK, hD.weaken (fun _ _ _ _ => trivial), zt_to hz hS (k_free hD hS hA) hU hW⟩
/-- what the tables say of a method -/
def MOK (y : MethodName) (b : ByteArray) (n : Nat) (r : Option FieldType) (k : Nat) : Prop :=
  Cond.code y b n r ∈ TB ∧ Cond.initialized y.cls ∈ TB ∧ y.cls ≠ "java/lang/invoke/MethodHandle" ∧ y.cls ≠ "java/lang/invoke/VarHandle" ∧ (parseMethodDescriptor y.desc).map (fun d => d.parameters.length) = some k
def MIN (y : MethodName) : Prop := Cond.instanceMethod y ∈ TB ∧ Cond.selects y.cls y y ∈ TB
section BASE
variable {p : Program} {l : Launch} {e : Env} {R : Room} {s : State} {m : MethodId} {args : Array Value} {below : List Frame} {meth : Method} {c : Code} {H H0 : Heap} {locs : List Loc} {cells slots : Nat} {Q : State → Prop} {cc : ByteArray} {pc : Nat} {ls : Array Slot} {rest : List Value} {D : va_G} {cl : List vw_C} {tys : List (ClassId × FieldType)} {ws ws' : va_W} {A : Nat → Prop}
  {y : MethodName} {bytes : ByteArray} {maxL nL n index : Nat} {ret : Option FieldType} {rm : Room} {own host : String} {b : Nat} {As st0 : List Value} {Qc : Array Value → State → Outcome → State → Prop} {free : Addr → Prop} {ci q0 : Nat} {q : vw_C} {fs : List Value}
theorem k_runV (S : CallFix p m c cc nL s args TB own) (hM : Met l y (Cond.code y bytes maxL ret :: TB) rm (PreW D cl tys ws (.ref b :: As) H.size) Qc 0 0 free) (hk : MOK y bytes maxL ret n) (hi : MIN y) (hl : Cond.methodLink own index y ∈ TB) (hrc : rm.cells = 0) (hrs : rm.slots = 0) (hR : rm.frames + 1 ≤ R.frames ∧ 8 + (maxL + 11) + rm.locals ≤ R.locals)
    (hP : va_P D cl ws H) (hK : va_K D cl tys s) (hD : va_D A ws) (hS : va_S A s.heap H locs) (hA : ∀ q, s.heap.size ≤ q → A q) (hz : zt A s) (hc : cl[ci]? = some q) (hq : q.1 = y.cls) (he : ws[q0]? = some (b, .inr (ci, fs))) (hn : As.length = n) (hsize : ls.size = nL) (hstk : st0 = As.reverse ++ .ref b :: rest) (hW : (rest.map fun v => v.category).sum ≤ 8) (hdg : decode cc pc = .ok (.invokevirtual index, 3)) (hf : cells ≤ R.cells ∧ slots ≤ R.slots) :
    va_Run p l e R s m args below meth c H locs cells slots 0 0 (F0 m pc ls st0) rest (Qc (Value.ref b :: As).toArray) free :=
  va_runV S hM ⟨callB_of n S.2.2.2.2 (gd_in hk.1) rfl hrc hrs (S.2.2.2.2 _ hk.2.1) (S.2.2.2.2 _ hl) ⟨hk.2.2.1, hk.2.2.2.1, hk.2.2.2.2⟩ hR, S.2.2.2.2 _ hi.1, S.2.2.2.2 _ hi.2⟩ ⟨PreW.blind, by have h := va_recv hK hP hc he; rw [hq] at h; exact h, PreW.at hP hK hD hS hA hz⟩ rfl hn hsize hstk (lv_room hW) hdg hf
theorem k_runVN (S : CallFix p m c cc nL s args TB own) (hM : Met l y (Cond.code y bytes maxL ret :: TB) rm (PreW D cl tys ws (.ref b :: As) H.size) Qc 0 0 free) (hk : MOK y bytes maxL ret n) (hi : MIN y) (hl : Cond.methodLinkNest own index y host ∈ NWL) (hrc : rm.cells = 0) (hrs : rm.slots = 0) (hR : rm.frames + 1 ≤ R.frames ∧ 8 + (maxL + 11) + rm.locals ≤ R.locals)
    (hP : va_P D cl ws H) (hK : va_K D cl tys s) (hD : va_D A ws) (hS : va_S A s.heap H locs) (hA : ∀ q, s.heap.size ≤ q → A q) (hz : zt A s) (hc : cl[ci]? = some q) (hq : q.1 = y.cls) (he : ws[q0]? = some (b, .inr (ci, fs))) (hn : As.length = n) (hsize : ls.size = nL) (hstk : st0 = As.reverse ++ .ref b :: rest) (hW : (rest.map fun v => v.category).sum ≤ 8) (hdg : decode cc pc = .ok (.invokevirtual index, 3)) (hf : cells ≤ R.cells ∧ slots ≤ R.slots) :
    va_Run p l e R s m args below meth c H locs cells slots 0 0 (F0 m pc ls st0) rest (Qc (Value.ref b :: As).toArray) free :=
  va_runVN S hM ⟨va_cnB n S.2.2.2.2 (gd_in hk.1) rfl hrc hrs (hz.1 _ hl) (S.2.2.2.2 _ hk.2.1) ⟨hk.2.2.1, hk.2.2.2.1, hk.2.2.2.2⟩ hR, S.2.2.2.2 _ hi.1, S.2.2.2.2 _ hi.2⟩ ⟨PreW.blind, by have h := va_recv hK hP hc he; rw [hq] at h; exact h, PreW.at hP hK hD hS hA hz⟩ rfl hn hsize hstk (lv_room hW) hdg hf
theorem k_runS (S : CallFix p m c cc nL s args TB own) (hM : Met l y (Cond.code y bytes maxL ret :: TB) rm (PreW D cl tys ws As H.size) Qc 0 0 free) (hk : MOK y bytes maxL ret n) (hi : Cond.static y ∈ TB) (hl : Cond.methodLink own index y ∈ TB) (hrc : rm.cells = 0) (hrs : rm.slots = 0) (hR : rm.frames + 1 ≤ R.frames ∧ 8 + (maxL + 11) + rm.locals ≤ R.locals)
    (hP : va_P D cl ws H) (hK : va_K D cl tys s) (hD : va_D A ws) (hS : va_S A s.heap H locs) (hA : ∀ q, s.heap.size ≤ q → A q) (hz : zt A s) (hn : As.length = n) (hsize : ls.size = nL) (hstk : st0 = As.reverse ++ rest) (hW : (rest.map fun v => v.category).sum ≤ 8) (hdg : decode cc pc = .ok (.invokestatic index, 3)) (hf : cells ≤ R.cells ∧ slots ≤ R.slots) :
    va_Run p l e R s m args below meth c H locs cells slots 0 0 (F0 m pc ls st0) rest (Qc As.toArray) free :=
  va_runS S hM ⟨callB_of n S.2.2.2.2 (gd_in hk.1) rfl hrc hrs (S.2.2.2.2 _ hk.2.1) (S.2.2.2.2 _ hl) ⟨hk.2.2.1, hk.2.2.2.1, hk.2.2.2.2⟩ hR, S.2.2.2.2 _ hi⟩ ⟨PreW.blind, PreW.at hP hK hD hS hA hz⟩ rfl hn hsize hstk (lv_room hW) hdg hf
theorem k_runSN (S : CallFix p m c cc nL s args TB own) (hM : Met l y (Cond.code y bytes maxL ret :: TB) rm (PreW D cl tys ws As H.size) Qc 0 0 free) (hk : MOK y bytes maxL ret n) (hi : Cond.static y ∈ TB) (hl : Cond.methodLinkNest own index y host ∈ NWL) (hrc : rm.cells = 0) (hrs : rm.slots = 0) (hR : rm.frames + 1 ≤ R.frames ∧ 8 + (maxL + 11) + rm.locals ≤ R.locals)
    (hP : va_P D cl ws H) (hK : va_K D cl tys s) (hD : va_D A ws) (hS : va_S A s.heap H locs) (hA : ∀ q, s.heap.size ≤ q → A q) (hz : zt A s) (hn : As.length = n) (hsize : ls.size = nL) (hstk : st0 = As.reverse ++ rest) (hW : (rest.map fun v => v.category).sum ≤ 8) (hdg : decode cc pc = .ok (.invokestatic index, 3)) (hf : cells ≤ R.cells ∧ slots ≤ R.slots) :
    va_Run p l e R s m args below meth c H locs cells slots 0 0 (F0 m pc ls st0) rest (Qc As.toArray) free :=
  va_runSN S hM ⟨va_cnB n S.2.2.2.2 (gd_in hk.1) rfl hrc hrs (hz.1 _ hl) (S.2.2.2.2 _ hk.2.1) ⟨hk.2.2.1, hk.2.2.2.1, hk.2.2.2.2⟩ hR, S.2.2.2.2 _ hi, trivial⟩ ⟨PreW.blind, PreW.at hP hK hD hS hA hz⟩ rfl hn hsize hstk (lv_room hW) hdg hf
theorem k_I {r : Int32} {a : Array Value} (hr : va_Run p l e R s m args below meth c H locs cells slots 0 0 (F0 m pc ls st0) rest (PstI D cl tys ws ws' H.size r a) (va_A ws H.size)) (hD : va_D A ws) (hS : va_S A H0 H locs) (hA : ∀ q, H0.size ≤ q → A q)
    (kk : ∀ (H1 : Heap) (locs1 : List Loc), va_P D cl ws' H1 → va_D A ws' → va_S A H0 H1 locs1 → W p l e R s m args below meth c H1 locs1 cells slots Q (F0 m (pc + 3) ls (.int r :: rest))) : W p l e R s m args below meth c H locs cells slots Q (F0 m pc ls st0) := by
  have hFc := k_free hD hS hA
  refine va_calli hr hS (fun q _ h => hFc q h) hFc (fun r' u t H1 locs1 ht hvm hw hB hz1 hk1 hS1 => ?_)
  obtain ⟨hP1, hK1, hD1⟩ := hB
  rw [ht] at hP1
  subst hw
  exact kk H1 locs1 hP1 ⟨hD1.1, fun k q h => hFc _ (hD1.2 k q h)⟩ hS1
theorem k_L {r : Int64} {a : Array Value} (hr : va_Run p l e R s m args below meth c H locs cells slots 0 0 (F0 m pc ls st0) rest (PstL D cl tys ws ws' H.size r a) (va_A ws H.size)) (hD : va_D A ws) (hS : va_S A H0 H locs) (hA : ∀ q, H0.size ≤ q → A q)
    (kk : ∀ (H1 : Heap) (locs1 : List Loc), va_P D cl ws' H1 → va_D A ws' → va_S A H0 H1 locs1 → W p l e R s m args below meth c H1 locs1 cells slots Q (F0 m (pc + 3) ls (.long r :: rest))) : W p l e R s m args below meth c H locs cells slots Q (F0 m pc ls st0) := by
  have hFc := k_free hD hS hA
  refine va_calll hr hS (fun q _ h => hFc q h) hFc (fun r' u t H1 locs1 ht hvm hw hB hz1 hk1 hS1 => ?_)
  obtain ⟨hP1, hK1, hD1⟩ := hB
  rw [ht] at hP1
  subst hw
  exact kk H1 locs1 hP1 ⟨hD1.1, fun k q h => hFc _ (hD1.2 k q h)⟩ hS1
theorem k_V {a : Array Value} (hr : va_Run p l e R s m args below meth c H locs cells slots 0 0 (F0 m pc ls st0) rest (PstV D cl tys ws ws' H.size a) (va_A ws H.size)) (hD : va_D A ws) (hS : va_S A H0 H locs) (hA : ∀ q, H0.size ≤ q → A q)
    (kk : ∀ (H1 : Heap) (locs1 : List Loc), va_P D cl ws' H1 → va_D A ws' → va_S A H0 H1 locs1 → W p l e R s m args below meth c H1 locs1 cells slots Q (F0 m (pc + 3) ls rest)) : W p l e R s m args below meth c H locs cells slots Q (F0 m pc ls st0) := by
  have hFc := k_free hD hS hA
  refine va_callv hr hS (fun q _ h => hFc q h) hFc (fun u t H1 locs1 ht hvm hw hB hz1 hk1 hS1 => ?_)
  obtain ⟨hP1, hK1, hD1⟩ := hB
  rw [ht] at hP1
  exact kk H1 locs1 hP1 ⟨hD1.1, fun k q h => hFc _ (hD1.2 k q h)⟩ hS1
variable {sz : Nat}
theorem k_iret {r : Int32} (hx : p.tables.exec = Jvm.exec) (hb : c.code = cc) (hr : meth.sig.returnType = some .int) (hlk : meth.locks = false) (hP : va_P D cl ws' H) (hK : va_K D cl tys s) (hD : va_D (va_A ws sz) ws') (hS : va_S (va_A ws sz) s.heap H locs) (hdg : decode cc pc = .ok (.ireturn, 1)) :
    W p l e R s m args below meth c H locs 0 0 (MQ below (PstI D cl tys ws ws' sz r) args s 0 0 (va_A ws sz)) (F0 m pc ls [.int r]) :=
  W.iret hx hb hr (fun t ht hW => ⟨⟨r, (), rfl, rfl, by rw [ht]; exact hP, va_K.moved hW.alike hK, hD⟩, hS.F ht⟩) hS.2.2 hdg (hlocks := hlk)
theorem k_zret {r : Int32} (hx : p.tables.exec = Jvm.exec) (hb : c.code = cc) (hr : meth.sig.returnType = some .boolean) (hlk : meth.locks = false) (h01 : r = 0 ∨ r = 1) (hP : va_P D cl ws' H) (hK : va_K D cl tys s) (hD : va_D (va_A ws sz) ws') (hS : va_S (va_A ws sz) s.heap H locs) (hdg : decode cc pc = .ok (.ireturn, 1)) :
    W p l e R s m args below meth c H locs 0 0 (MQ below (PstI D cl tys ws ws' sz r) args s 0 0 (va_A ws sz)) (F0 m pc ls [.int r]) :=
  W.zret hx hb hr (by rcases h01 with rfl | rfl <;> rfl) (fun t ht hW => ⟨⟨r, (), rfl, rfl, by rw [ht]; exact hP, va_K.moved hW.alike hK, hD⟩, hS.F ht⟩) hS.2.2 hdg (hlocks := hlk)
theorem k_lret {r : Int64} (hx : p.tables.exec = Jvm.exec) (hb : c.code = cc) (hr : meth.sig.returnType = some .long) (hlk : meth.locks = false) (hP : va_P D cl ws' H) (hK : va_K D cl tys s) (hD : va_D (va_A ws sz) ws') (hS : va_S (va_A ws sz) s.heap H locs) (hdg : decode cc pc = .ok (.lreturn, 1)) :
    W p l e R s m args below meth c H locs 0 0 (MQ below (PstL D cl tys ws ws' sz r) args s 0 0 (va_A ws sz)) (F0 m pc ls [.long r]) :=
  W.lret hx hb hr (fun t ht hW => ⟨⟨r, (), rfl, rfl, by rw [ht]; exact hP, va_K.moved hW.alike hK, hD⟩, hS.F ht⟩) hS.2.2 hdg (hlocks := hlk)
theorem k_vret (hx : p.tables.exec = Jvm.exec) (hb : c.code = cc) (hr : meth.sig.returnType = none) (hlk : meth.locks = false) (hP : va_P D cl ws' H) (hK : va_K D cl tys s) (hD : va_D (va_A ws sz) ws') (hS : va_S (va_A ws sz) s.heap H locs) (hdg : decode cc pc = .ok (.return_, 1)) :
    W p l e R s m args below meth c H locs 0 0 (MQ below (PstV D cl tys ws ws' sz) args s 0 0 (va_A ws sz)) (F0 m pc ls []) :=
  W.vret hx hb hr (fun t ht hW => ⟨⟨(), rfl, trivial, by rw [ht]; exact hP, va_K.moved hW.alike hK, hD⟩, hS.F ht⟩) hS.2.2 hdg (hlocks := hlk)
/-- a contract's body, from its first instruction -/
theorem k_met {av : List Value} (hy : plainName y.cls = true) (hlen : (lg_sl av).length ≤ maxL)
    (body : ∀ (p : Program) (e : Env) (s : State) (m : MethodId) (below : List Frame) (meth : Method) (c : Code) (ls : Array Slot), p.tables.exec = Jvm.exec → c.code = bytes → meth.sig.returnType = ret → c.maxLocals = maxL → (∀ w ∈ TB, w.before av.toArray s = true) → s.vm.findClass y.cls = some m.cls → meth.locks = false → meth.name = y.name → s.heap.size = sz → va_P D cl ws s.heap → va_K D cl tys s → va_D (va_A ws sz) ws → (∀ q, s.heap.size ≤ q → va_A ws sz q) → zt (va_A ws sz) s → lv_has ls maxL (lv_args 0 av) →
      W p l e rm s m av.toArray below meth c s.heap [] 0 0 (MQ below Qc av.toArray s 0 0 free) (F0 m 0 ls [])) :
    Met l y (Cond.code y bytes maxL ret :: TB) rm (PreW D cl tys ws av sz) Qc 0 0 free := by
  refine Met.ofW (cc := bytes) (maxL := maxL) (ret := ret) hy rfl ?_
  intro p e s m args below meth c s₁ B hml hv
  obtain ⟨rfl, hsz, hP, hK, hD0, hz⟩ := hv
  have hts := atoms_spec (ws := Cond.code y bytes maxL ret :: TB) B.pre
  have hl := lv_entry av (n := maxL) hlen
  rw [lg_entry_eq]
  generalize (lg_sl av ++ List.replicate (maxL - (lg_sl av).length) Slot.unset).toArray = ls at hl ⊢
  exact body p e s m below meth c ls B.exec B.bytes B.returns hml (fun w h => hts w (List.mem_cons_of_mem _ h)) (findClass_of_methodNamed B.named) B.notSynchronized (name_of_methodNamed B.named B.method).1 hsz hP hK hD0.self (fun q h => Or.inr (by rw [← hsz]; exact h)) hz hl
end BASE
/-! guards of the pure functions -/
def ga {α : Type} (i : Int32) (N : Nat) (k : Option α) : Option α := if 0 ≤ i.toInt ∧ i.toInt < (N : Int) then k else none
def gr {α β : Type} (f : Nat → β) (i : Int32) (N : Nat) (k : β → Option α) : Option α := if 0 ≤ i.toInt ∧ i.toInt < (N : Int) then k (f i.toNatClampNeg) else none
def gz {α : Type} (y : Int32) (k : Option α) : Option α := if y = 0 then none else k
def gb {α : Type} (y : Int32) (k : Option α) : Option α := if y = 0 ∨ y = 1 then k else none
theorem ga_some {α : Type} {i : Int32} {N : Nat} {k : Option α} {x : α} (h : ga i N k = some x) : vp_in i N ∧ k = some x := by
  unfold ga at h
  split at h
  · rename_i q; exact ⟨vp_in_iff.mpr q, h⟩
  · cases h
theorem gr_some {α β : Type} {f : Nat → β} {i : Int32} {N : Nat} {k : β → Option α} {x : α} (h : gr f i N k = some x) : vp_in i N ∧ ∃ v, v = f i.toNatClampNeg ∧ k v = some x := by
  unfold gr at h
  split at h
  · rename_i q; exact ⟨vp_in_iff.mpr q, _, rfl, h⟩
  · cases h
theorem gz_some {α : Type} {y : Int32} {k : Option α} {x : α} (h : gz y k = some x) : ¬ y = 0 ∧ k = some x := by
  unfold gz at h
  split at h
  · cases h
  · rename_i q; exact ⟨q, h⟩
theorem gb_some {α : Type} {y : Int32} {k : Option α} {x : α} (h : gb y k = some x) : (y = 0 ∨ y = 1) ∧ k = some x := by
  unfold gb at h
  split at h
  · rename_i q; exact ⟨q, h⟩
  · cases h
theorem k_sw {p : Program} {l : Launch} {e : Env} {R : Room} {s : State} {m : MethodId} {args : Array Value} {below : List Frame} {meth : Method} {c : Code} {H : Heap} {locs : List Loc} {cells slots : Nat} {Q : State → Prop} {pc : Nat} {ls : Array Slot} {rest : List Value} {x y : Int32} (h : x = y) (k : W p l e R s m args below meth c H locs cells slots Q (F0 m pc ls (.int y :: rest))) : W p l e R s m args below meth c H locs cells slots Q (F0 m pc ls (.int x :: rest)) := by
  subst h; exact k
