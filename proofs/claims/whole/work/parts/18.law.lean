/-! printed by wip/gen/gen5.py: the law's loop out of what the pure functions do -/
/-! THE CLAIM OUT OF ONE WALK OF THE LAW'S BODY. Your part is whole_start (and what it stands on); all else here is the same for every law, but numbers. -/
def R_law : String := "ScanMachineLaw"
def lw_P (b : Addr) (xs : List Int32) (args : Array Value) (s : State) : Prop := args = #[.ref b] ∧ s.IntsAt b xs ∧ xs.length ≤ 2560 ∧ (Jvm.Cond.and given_1 narrow_1).before args s = true
def lw_Q (_ : Array Value) (s : State) (o : Outcome) (t : State) : Prop := o = .returned (some (.int 1)) ∧ Framed s o t [] 44 15449
def lw_Z (below : List Frame) (a : Array Value) (s : State) : State → Prop := fun t => ∃ o, t.status = .running ∧ Ended t below o ∧ lw_Q a s o t
/-- the law's own end, with 1 on the stack, nothing written that was there before, its room as the claim has it -/
theorem lw_ret {p : Program} {l : Launch} {e : Env} {s : State} {m : MethodId} {below : List Frame} {meth : Method} {c : Code} {b : Nat} (hx : p.tables.exec = Jvm.exec) (hb : c.code = code) (hr : meth.sig.returnType = ret) (hlocks : meth.locks = false) {pc : Nat} {H : Heap} {ls : Array Slot} (hdg : decode code pc = .ok (.ireturn, 1)) : W p l e room_1 s m #[Value.ref b] below meth c H [] 44 15449 (lw_Z below #[Value.ref b] s) (F0 m pc ls [.int 1]) := by
  intro T hT X
  obtain ⟨fs, hret, hrun, hended, hW, hframe⟩ := X.leave (v := some (.int 1)) (hlocks := hlocks) (fun h => by rw [hr] at h; cases h)
  have hmeth' : T.vm.method? m = some meth := X.method'
  refine ⟨T.setFrames fs, ?_, .returned (some (.int 1)), hrun, hended, rfl, ⟨_, rfl⟩, hW, hframe⟩
  jvm_step X.here [X.here.top, hx, hb, hdg, hmeth', hr, ret, narrow_b1]
  (try refine ⟨rfl, ?_⟩); (try refine ⟨rfl, ?_⟩)
  first | (intro acts; rw [hret _ acts rfl rfl rfl]) | rw [hret _ _ rfl rfl rfl]
  exact Steps.refl _
/-- what holds at the law's entry: the machine, the code, the tables' words (any of lw_tbl by 'hts w (by decide +kernel)'), the script of L ints xs at the cell b, what the Statement gives of the start (any of its parts by flat_of_before) -/
def lw_At (p : Program) (s : State) (m : MethodId) (meth : Method) (c : Code) (b L : Nat) (xs : Nat → Int32) : Prop :=
  p.tables.exec = Jvm.exec ∧ c.code = code ∧ meth.sig.returnType = ret ∧ c.maxLocals = 4 ∧ s.vm.findClass R_law = some m.cls ∧ (∀ w ∈ lw_tbl, w.before #[Value.ref b] s = true) ∧ va_X b L xs s s.heap ∧ b < s.heap.size ∧ meth.locks = false ∧ (Jvm.Cond.and given_1 narrow_1).before #[Value.ref b] s = true
abbrev RelT : Type := (T_ma) → (T_ko) → (T_sh) → (T_lo) → (T_de) → (T_wa) → (T_me) → (T_ru) → (T_mc) → (T_mq) → (T_mr) → Prop
/-- what the pure level must give: related states answer alike and stay related -/
def PureOK (NF : Nat) (Rel : RelT) : Prop :=
  (∃ (r : Int32) (mc' : T_mc) (mr' : T_mr), r_Mo_begin NF mc0 mr0 (64 : Int32) = some (r, mc', mr') ∧ Rel ma0 ko0 sh0 lo0 de0 wa0 me0 ru0 mc' mq0 mr') ∧
  ∀ (ma : T_ma) (ko : T_ko) (sh : T_sh) (lo : T_lo) (de : T_de) (wa : T_wa) (me : T_me) (ru : T_ru) (mc : T_mc) (mq : T_mq) (mr : T_mr), Rel ma ko sh lo de wa me ru mc mq mr →
  (∀ a0 : Int32, ∃ (r : Int32) (ma' : T_ma) (ko' : T_ko) (me' : T_me) (ru' : T_ru) (mc' : T_mc) (mr' : T_mr), r_Sm_begin NF ma ko me ru a0 = some (r, ma', ko', me', ru') ∧ r_Mo_begin NF mc mr a0 = some (r, mc', mr') ∧ Rel ma' ko' sh lo de wa me' ru' mc' mq mr') ∧
  (∀ a0 a1 : Int32, ∃ (r : Int32) (ma' : T_ma) (ko' : T_ko) (me' : T_me) (ru' : T_ru) (mc' : T_mc) (mr' : T_mr), r_Sm_unit NF ma ko me ru a0 a1 = some (r, ma', ko', me', ru') ∧ r_Mo_unit NF mc mr a0 a1 = some (r, mc', mr') ∧ Rel ma' ko' sh lo de wa me' ru' mc' mq mr') ∧
  (∀ a0 a1 a2 a3 : Int32, ∃ (r : Int32) (ma' : T_ma) (ko' : T_ko) (me' : T_me) (ru' : T_ru) (mc' : T_mc) (mr' : T_mr), r_Sm_add NF ma ko me ru a0 a1 a2 a3 = some (r, ma', ko', me', ru') ∧ r_Mo_add NF mc mr a0 a1 a2 a3 = some (r, mc', mr') ∧ Rel ma' ko' sh lo de wa me' ru' mc' mq mr') ∧
  (∃ (r : Int32) (ma' : T_ma) (sh' : T_sh) (lo' : T_lo) (de' : T_de) (wa' : T_wa) (me' : T_me) (ru' : T_ru) (mq' : T_mq) (mr' : T_mr), r_Sm_start NF ma ko sh lo de wa me ru  = some (r, ma', sh', lo', de', wa', me', ru') ∧ r_Mo_start NF mc mq mr  = some (r, mq', mr') ∧ Rel ma' ko sh' lo' de' wa' me' ru' mc mq' mr') ∧
  (∀ a0 : Int32, ∃ (r : Int32) (ma' : T_ma) (me' : T_me) (ru' : T_ru) (mr' : T_mr), r_Sm_scan NF ma ko me ru a0 = some (r, ma', me', ru') ∧ r_Mo_scan NF mc mr a0 = some (r, mr') ∧ Rel ma' ko sh lo de wa me' ru' mc mq mr') ∧
  (∀ a0 a1 : Int32, ∃ (r : Int32) (me' : T_me) (mr' : T_mr), r_Sm_set NF ma me a0 a1 = some (r, me') ∧ r_Mo_set NF mc mr a0 a1 = some (r, mr') ∧ Rel ma ko sh lo de wa me' ru mc mq mr') ∧
  (∀ a0 : Int32, ∃ (r : Int32), r_Sm_get NF ma me a0 = some r ∧ r_Mo_get NF mc mr a0 = some r ∧ Rel ma ko sh lo de wa me ru mc mq mr) ∧
  (∀ a0 : Int32, ∃ (r : Int32), r_Sm_count NF ma me ru a0 = some r ∧ r_Mo_count NF mc mq mr a0 = some r ∧ Rel ma ko sh lo de wa me ru mc mq mr)
def dj2 (ad am : Nat → Nat) : Prop := ∀ i j, i < 27 → j < 17 → ad i ≠ am j
theorem wX_adr {cI cL : ClassId} {ad : Nat → Nat} {ma : T_ma} {ko : T_ko} {sh : T_sh} {lo : T_lo} {de : T_de} {wa : T_wa} {me : T_me} {ru : T_ru} {k : Nat} {q : Nat × va_E} (h : (wX cI cL ad ma ko sh lo de wa me ru)[k]? = some q) : k < 27 ∧ q.1 = ad k := by
  have hk : k < 27 := (List.getElem?_eq_some_iff.mp h).1
  refine ⟨hk, ?_⟩
  match k, hk, h with
  | 0, _, h => exact (congrArg Prod.fst (Option.some.inj h)).symm
  | 1, _, h => exact (congrArg Prod.fst (Option.some.inj h)).symm
  | 2, _, h => exact (congrArg Prod.fst (Option.some.inj h)).symm
  | 3, _, h => exact (congrArg Prod.fst (Option.some.inj h)).symm
  | 4, _, h => exact (congrArg Prod.fst (Option.some.inj h)).symm
  | 5, _, h => exact (congrArg Prod.fst (Option.some.inj h)).symm
  | 6, _, h => exact (congrArg Prod.fst (Option.some.inj h)).symm
  | 7, _, h => exact (congrArg Prod.fst (Option.some.inj h)).symm
  | 8, _, h => exact (congrArg Prod.fst (Option.some.inj h)).symm
  | 9, _, h => exact (congrArg Prod.fst (Option.some.inj h)).symm
  | 10, _, h => exact (congrArg Prod.fst (Option.some.inj h)).symm
  | 11, _, h => exact (congrArg Prod.fst (Option.some.inj h)).symm
  | 12, _, h => exact (congrArg Prod.fst (Option.some.inj h)).symm
  | 13, _, h => exact (congrArg Prod.fst (Option.some.inj h)).symm
  | 14, _, h => exact (congrArg Prod.fst (Option.some.inj h)).symm
  | 15, _, h => exact (congrArg Prod.fst (Option.some.inj h)).symm
  | 16, _, h => exact (congrArg Prod.fst (Option.some.inj h)).symm
  | 17, _, h => exact (congrArg Prod.fst (Option.some.inj h)).symm
  | 18, _, h => exact (congrArg Prod.fst (Option.some.inj h)).symm
  | 19, _, h => exact (congrArg Prod.fst (Option.some.inj h)).symm
  | 20, _, h => exact (congrArg Prod.fst (Option.some.inj h)).symm
  | 21, _, h => exact (congrArg Prod.fst (Option.some.inj h)).symm
  | 22, _, h => exact (congrArg Prod.fst (Option.some.inj h)).symm
  | 23, _, h => exact (congrArg Prod.fst (Option.some.inj h)).symm
  | 24, _, h => exact (congrArg Prod.fst (Option.some.inj h)).symm
  | 25, _, h => exact (congrArg Prod.fst (Option.some.inj h)).symm
  | 26, _, h => exact (congrArg Prod.fst (Option.some.inj h)).symm
  | k + 27, hk, _ => exact absurd hk (by omega)
theorem wM_adr {cI cL : ClassId} {ad : Nat → Nat} {mc : T_mc} {mq : T_mq} {mr : T_mr} {k : Nat} {q : Nat × va_E} (h : (wM cI cL ad mc mq mr)[k]? = some q) : k < 17 ∧ q.1 = ad k := by
  have hk : k < 17 := (List.getElem?_eq_some_iff.mp h).1
  refine ⟨hk, ?_⟩
  match k, hk, h with
  | 0, _, h => exact (congrArg Prod.fst (Option.some.inj h)).symm
  | 1, _, h => exact (congrArg Prod.fst (Option.some.inj h)).symm
  | 2, _, h => exact (congrArg Prod.fst (Option.some.inj h)).symm
  | 3, _, h => exact (congrArg Prod.fst (Option.some.inj h)).symm
  | 4, _, h => exact (congrArg Prod.fst (Option.some.inj h)).symm
  | 5, _, h => exact (congrArg Prod.fst (Option.some.inj h)).symm
  | 6, _, h => exact (congrArg Prod.fst (Option.some.inj h)).symm
  | 7, _, h => exact (congrArg Prod.fst (Option.some.inj h)).symm
  | 8, _, h => exact (congrArg Prod.fst (Option.some.inj h)).symm
  | 9, _, h => exact (congrArg Prod.fst (Option.some.inj h)).symm
  | 10, _, h => exact (congrArg Prod.fst (Option.some.inj h)).symm
  | 11, _, h => exact (congrArg Prod.fst (Option.some.inj h)).symm
  | 12, _, h => exact (congrArg Prod.fst (Option.some.inj h)).symm
  | 13, _, h => exact (congrArg Prod.fst (Option.some.inj h)).symm
  | 14, _, h => exact (congrArg Prod.fst (Option.some.inj h)).symm
  | 15, _, h => exact (congrArg Prod.fst (Option.some.inj h)).symm
  | 16, _, h => exact (congrArg Prod.fst (Option.some.inj h)).symm
  | k + 17, hk, _ => exact absurd hk (by omega)
theorem dj_XM {cI cL : ClassId} {ad am : Nat → Nat} {ma : T_ma} {ko : T_ko} {sh : T_sh} {lo : T_lo} {de : T_de} {wa : T_wa} {me : T_me} {ru : T_ru} {mc : T_mc} {mq : T_mq} {mr : T_mr} (h : dj2 ad am) : ∀ (k : Nat) (q : Nat × va_E), (wM cI cL am mc mq mr)[k]? = some q → ∀ (j : Nat) (e : va_E), ¬ (wX cI cL ad ma ko sh lo de wa me ru)[j]? = some (q.1, e) := fun k q hq j e hj => by
  have h1 := wM_adr hq; have h2 := wX_adr hj
  exact h j k h2.1 h1.1 (h2.2.symm.trans h1.2)
theorem dj_MX {cI cL : ClassId} {ad am : Nat → Nat} {ma : T_ma} {ko : T_ko} {sh : T_sh} {lo : T_lo} {de : T_de} {wa : T_wa} {me : T_me} {ru : T_ru} {mc : T_mc} {mq : T_mq} {mr : T_mr} (h : dj2 ad am) : ∀ (k : Nat) (q : Nat × va_E), (wX cI cL ad ma ko sh lo de wa me ru)[k]? = some q → ∀ (j : Nat) (e : va_E), ¬ (wM cI cL am mc mq mr)[j]? = some (q.1, e) := fun k q hq j e hj => by
  have h1 := wX_adr hq; have h2 := wM_adr hj
  exact h k j h1.1 h2.1 (h1.2.symm.trans h2.2)
theorem k_I2 {p : Program} {l : Launch} {e : Env} {R : Room} {s : State} {m : MethodId} {args : Array Value} {below : List Frame} {meth : Method} {c : Code} {H H0 : Heap} {locs : List Loc} {cells slots : Nat} {Q : State → Prop} {pc : Nat} {ls : Array Slot} {rest st0 : List Value} {D : va_G} {cl : List vw_C} {tys : List (ClassId × FieldType)} {wa wa' wb : va_W} {A : Nat → Prop} {r : Int32} {a : Array Value} (hr : va_Run p l e R s m args below meth c H locs cells slots 0 0 (F0 m pc ls st0) rest (PstI D cl tys wa wa' H.size r a) (va_A wa H.size)) (hPb : va_P D cl wb H) (hD : va_D A wa) (hS : va_S A H0 H locs) (hA : ∀ q, H0.size ≤ q → A q) (hdj : ∀ (k : Nat) (q : Nat × va_E), wb[k]? = some q → ∀ (j : Nat) (e : va_E), ¬ wa[j]? = some (q.1, e))
    (kk : ∀ (H1 : Heap) (locs1 : List Loc), va_P D cl wa' H1 → va_P D cl wb H1 → va_D A wa' → va_S A H0 H1 locs1 → W p l e R s m args below meth c H1 locs1 cells slots Q (F0 m (pc + 3) ls (.int r :: rest))) : W p l e R s m args below meth c H locs cells slots Q (F0 m pc ls st0) := by
  have hFc := k_free hD hS hA
  refine va_calli hr hS (fun q _ h => hFc q h) hFc (fun r' u t H1 locs1 ht hvm hw hB hz1 hk1 hS1 => ?_)
  obtain ⟨hP1, hK1, hD1⟩ := hB
  rw [ht] at hP1
  subst hw
  refine kk H1 locs1 hP1 (hPb.kept (fun k q hq => hk1 q.1 (hPb k q hq).lt (fun hva => ?_))) ⟨hD1.1, fun k q h => hFc _ (hD1.2 k q h)⟩ hS1
  rcases hva with ⟨j, e, h⟩ | h
  · exact hdj k q hq j e h
  · exact absurd (hPb k q hq).lt (Nat.not_lt.mpr h)
theorem li_in {i L j : Nat} {v : Int32} (hv : v = nI j) (h : i + j < L) (hL : L ≤ 2560) : vp_in (nI i + v) L := by
  rw [hv, nI_add]; exact vp_in_nI h (by omega)
theorem li_gt {i L : Nat} (hL : L ≤ 2560) (hi : i ≤ L) : (Int32.ofNat L - 5 < nI i) ↔ L < i + 5 := by
  have e1 : (nI L - nI 5).toInt = (L : Int) - 5 := pk_sub_toInt (by omega) (by decide)
  have e2 : (nI i).toInt = (i : Int) := nI_toInt (by omega)
  have e3 : Int32.ofNat L - 5 = nI L - nI 5 := rfl
  rw [e3, Int32.lt_iff_toInt_lt, e1, e2]
  omega
theorem d_law_0 : decode code 0 = .ok (.new 7, 3) := by decide +kernel
theorem d_law_3 : decode code 3 = .ok (.dup, 1) := by decide +kernel
theorem d_law_4 : decode code 4 = .ok (.invokespecial 9, 3) := by decide +kernel
theorem d_law_7 : decode code 7 = .ok (.astore_n 1, 1) := by decide +kernel
theorem d_law_8 : decode code 8 = .ok (.new 10, 3) := by decide +kernel
theorem d_law_11 : decode code 11 = .ok (.dup, 1) := by decide +kernel
theorem d_law_12 : decode code 12 = .ok (.invokespecial 12, 3) := by decide +kernel
theorem d_law_15 : decode code 15 = .ok (.astore_n 2, 1) := by decide +kernel
theorem d_law_16 : decode code 16 = .ok (.iconst 0, 1) := by decide +kernel
theorem d_law_17 : decode code 17 = .ok (.istore_n 3, 1) := by decide +kernel
theorem d_law_18 : decode code 18 = .ok (.iload_n 3, 1) := by decide +kernel
theorem d_law_19 : decode code 19 = .ok (.aload_n 0, 1) := by decide +kernel
theorem d_law_20 : decode code 20 = .ok (.arraylength, 1) := by decide +kernel
theorem d_law_21 : decode code 21 = .ok (.iconst 5, 1) := by decide +kernel
theorem d_law_22 : decode code 22 = .ok (.isub, 1) := by decide +kernel
theorem d_law_23 : decode code 23 = .ok (.if_icmp .gt 287, 3) := by decide +kernel
theorem d_law_26 : decode code 26 = .ok (.aload_n 0, 1) := by decide +kernel
theorem d_law_27 : decode code 27 = .ok (.iload_n 3, 1) := by decide +kernel
theorem d_law_28 : decode code 28 = .ok (.iaload, 1) := by decide +kernel
theorem d_law_29 : decode code 29 = .ok (.bipush 7, 2) := by decide +kernel
theorem d_law_31 : decode code 31 = .ok (.iand, 1) := by decide +kernel
theorem d_law_32 : decode code 32 = .ok (.tableswitch 272 0 7 #[48, 71, 104, 157, 170, 193, 226, 249], 48) := by decide +kernel
theorem d_law_80 : decode code 80 = .ok (.aload_n 1, 1) := by decide +kernel
theorem d_law_81 : decode code 81 = .ok (.aload_n 0, 1) := by decide +kernel
theorem d_law_82 : decode code 82 = .ok (.iload_n 3, 1) := by decide +kernel
theorem d_law_83 : decode code 83 = .ok (.iconst 1, 1) := by decide +kernel
theorem d_law_84 : decode code 84 = .ok (.iadd, 1) := by decide +kernel
theorem d_law_85 : decode code 85 = .ok (.iaload, 1) := by decide +kernel
theorem d_law_86 : decode code 86 = .ok (.invokevirtual 13, 3) := by decide +kernel
theorem d_law_89 : decode code 89 = .ok (.aload_n 2, 1) := by decide +kernel
theorem d_law_90 : decode code 90 = .ok (.aload_n 0, 1) := by decide +kernel
theorem d_law_91 : decode code 91 = .ok (.iload_n 3, 1) := by decide +kernel
theorem d_law_92 : decode code 92 = .ok (.iconst 1, 1) := by decide +kernel
theorem d_law_93 : decode code 93 = .ok (.iadd, 1) := by decide +kernel
theorem d_law_94 : decode code 94 = .ok (.iaload, 1) := by decide +kernel
theorem d_law_95 : decode code 95 = .ok (.invokevirtual 17, 3) := by decide +kernel
theorem d_law_98 : decode code 98 = .ok (.if_icmp .eq 206, 3) := by decide +kernel
theorem d_law_101 : decode code 101 = .ok (.iconst 0, 1) := by decide +kernel
theorem d_law_102 : decode code 102 = .ok (.ireturn, 1) := by decide +kernel
theorem d_law_103 : decode code 103 = .ok (.aload_n 1, 1) := by decide +kernel
theorem d_law_104 : decode code 104 = .ok (.aload_n 0, 1) := by decide +kernel
theorem d_law_105 : decode code 105 = .ok (.iload_n 3, 1) := by decide +kernel
theorem d_law_106 : decode code 106 = .ok (.iconst 1, 1) := by decide +kernel
theorem d_law_107 : decode code 107 = .ok (.iadd, 1) := by decide +kernel
theorem d_law_108 : decode code 108 = .ok (.iaload, 1) := by decide +kernel
theorem d_law_109 : decode code 109 = .ok (.aload_n 0, 1) := by decide +kernel
theorem d_law_110 : decode code 110 = .ok (.iload_n 3, 1) := by decide +kernel
theorem d_law_111 : decode code 111 = .ok (.iconst 2, 1) := by decide +kernel
theorem d_law_112 : decode code 112 = .ok (.iadd, 1) := by decide +kernel
theorem d_law_113 : decode code 113 = .ok (.iaload, 1) := by decide +kernel
theorem d_law_114 : decode code 114 = .ok (.invokevirtual 18, 3) := by decide +kernel
theorem d_law_117 : decode code 117 = .ok (.aload_n 2, 1) := by decide +kernel
theorem d_law_118 : decode code 118 = .ok (.aload_n 0, 1) := by decide +kernel
theorem d_law_119 : decode code 119 = .ok (.iload_n 3, 1) := by decide +kernel
theorem d_law_120 : decode code 120 = .ok (.iconst 1, 1) := by decide +kernel
theorem d_law_121 : decode code 121 = .ok (.iadd, 1) := by decide +kernel
theorem d_law_122 : decode code 122 = .ok (.iaload, 1) := by decide +kernel
theorem d_law_123 : decode code 123 = .ok (.aload_n 0, 1) := by decide +kernel
theorem d_law_124 : decode code 124 = .ok (.iload_n 3, 1) := by decide +kernel
theorem d_law_125 : decode code 125 = .ok (.iconst 2, 1) := by decide +kernel
theorem d_law_126 : decode code 126 = .ok (.iadd, 1) := by decide +kernel
theorem d_law_127 : decode code 127 = .ok (.iaload, 1) := by decide +kernel
theorem d_law_128 : decode code 128 = .ok (.invokevirtual 22, 3) := by decide +kernel
theorem d_law_131 : decode code 131 = .ok (.if_icmp .eq 173, 3) := by decide +kernel
theorem d_law_134 : decode code 134 = .ok (.iconst 0, 1) := by decide +kernel
theorem d_law_135 : decode code 135 = .ok (.ireturn, 1) := by decide +kernel
theorem d_law_136 : decode code 136 = .ok (.aload_n 1, 1) := by decide +kernel
theorem d_law_137 : decode code 137 = .ok (.aload_n 0, 1) := by decide +kernel
theorem d_law_138 : decode code 138 = .ok (.iload_n 3, 1) := by decide +kernel
theorem d_law_139 : decode code 139 = .ok (.iconst 1, 1) := by decide +kernel
theorem d_law_140 : decode code 140 = .ok (.iadd, 1) := by decide +kernel
theorem d_law_141 : decode code 141 = .ok (.iaload, 1) := by decide +kernel
theorem d_law_142 : decode code 142 = .ok (.aload_n 0, 1) := by decide +kernel
theorem d_law_143 : decode code 143 = .ok (.iload_n 3, 1) := by decide +kernel
theorem d_law_144 : decode code 144 = .ok (.iconst 2, 1) := by decide +kernel
theorem d_law_145 : decode code 145 = .ok (.iadd, 1) := by decide +kernel
theorem d_law_146 : decode code 146 = .ok (.iaload, 1) := by decide +kernel
theorem d_law_147 : decode code 147 = .ok (.aload_n 0, 1) := by decide +kernel
theorem d_law_148 : decode code 148 = .ok (.iload_n 3, 1) := by decide +kernel
theorem d_law_149 : decode code 149 = .ok (.iconst 3, 1) := by decide +kernel
theorem d_law_150 : decode code 150 = .ok (.iadd, 1) := by decide +kernel
theorem d_law_151 : decode code 151 = .ok (.iaload, 1) := by decide +kernel
theorem d_law_152 : decode code 152 = .ok (.aload_n 0, 1) := by decide +kernel
theorem d_law_153 : decode code 153 = .ok (.iload_n 3, 1) := by decide +kernel
theorem d_law_154 : decode code 154 = .ok (.iconst 4, 1) := by decide +kernel
theorem d_law_155 : decode code 155 = .ok (.iadd, 1) := by decide +kernel
theorem d_law_156 : decode code 156 = .ok (.iaload, 1) := by decide +kernel
theorem d_law_157 : decode code 157 = .ok (.invokevirtual 23, 3) := by decide +kernel
theorem d_law_160 : decode code 160 = .ok (.aload_n 2, 1) := by decide +kernel
theorem d_law_161 : decode code 161 = .ok (.aload_n 0, 1) := by decide +kernel
theorem d_law_162 : decode code 162 = .ok (.iload_n 3, 1) := by decide +kernel
theorem d_law_163 : decode code 163 = .ok (.iconst 1, 1) := by decide +kernel
theorem d_law_164 : decode code 164 = .ok (.iadd, 1) := by decide +kernel
theorem d_law_165 : decode code 165 = .ok (.iaload, 1) := by decide +kernel
theorem d_law_166 : decode code 166 = .ok (.aload_n 0, 1) := by decide +kernel
theorem d_law_167 : decode code 167 = .ok (.iload_n 3, 1) := by decide +kernel
theorem d_law_168 : decode code 168 = .ok (.iconst 2, 1) := by decide +kernel
theorem d_law_169 : decode code 169 = .ok (.iadd, 1) := by decide +kernel
theorem d_law_170 : decode code 170 = .ok (.iaload, 1) := by decide +kernel
theorem d_law_171 : decode code 171 = .ok (.aload_n 0, 1) := by decide +kernel
theorem d_law_172 : decode code 172 = .ok (.iload_n 3, 1) := by decide +kernel
theorem d_law_173 : decode code 173 = .ok (.iconst 3, 1) := by decide +kernel
theorem d_law_174 : decode code 174 = .ok (.iadd, 1) := by decide +kernel
theorem d_law_175 : decode code 175 = .ok (.iaload, 1) := by decide +kernel
theorem d_law_176 : decode code 176 = .ok (.aload_n 0, 1) := by decide +kernel
theorem d_law_177 : decode code 177 = .ok (.iload_n 3, 1) := by decide +kernel
theorem d_law_178 : decode code 178 = .ok (.iconst 4, 1) := by decide +kernel
theorem d_law_179 : decode code 179 = .ok (.iadd, 1) := by decide +kernel
theorem d_law_180 : decode code 180 = .ok (.iaload, 1) := by decide +kernel
theorem d_law_181 : decode code 181 = .ok (.invokevirtual 27, 3) := by decide +kernel
theorem d_law_184 : decode code 184 = .ok (.if_icmp .eq 120, 3) := by decide +kernel
theorem d_law_187 : decode code 187 = .ok (.iconst 0, 1) := by decide +kernel
theorem d_law_188 : decode code 188 = .ok (.ireturn, 1) := by decide +kernel
theorem d_law_189 : decode code 189 = .ok (.aload_n 1, 1) := by decide +kernel
theorem d_law_190 : decode code 190 = .ok (.invokevirtual 28, 3) := by decide +kernel
theorem d_law_193 : decode code 193 = .ok (.aload_n 2, 1) := by decide +kernel
theorem d_law_194 : decode code 194 = .ok (.invokevirtual 32, 3) := by decide +kernel
theorem d_law_197 : decode code 197 = .ok (.if_icmp .eq 107, 3) := by decide +kernel
theorem d_law_200 : decode code 200 = .ok (.iconst 0, 1) := by decide +kernel
theorem d_law_201 : decode code 201 = .ok (.ireturn, 1) := by decide +kernel
theorem d_law_202 : decode code 202 = .ok (.aload_n 1, 1) := by decide +kernel
theorem d_law_203 : decode code 203 = .ok (.aload_n 0, 1) := by decide +kernel
theorem d_law_204 : decode code 204 = .ok (.iload_n 3, 1) := by decide +kernel
theorem d_law_205 : decode code 205 = .ok (.iconst 1, 1) := by decide +kernel
theorem d_law_206 : decode code 206 = .ok (.iadd, 1) := by decide +kernel
theorem d_law_207 : decode code 207 = .ok (.iaload, 1) := by decide +kernel
theorem d_law_208 : decode code 208 = .ok (.invokevirtual 33, 3) := by decide +kernel
theorem d_law_211 : decode code 211 = .ok (.aload_n 2, 1) := by decide +kernel
theorem d_law_212 : decode code 212 = .ok (.aload_n 0, 1) := by decide +kernel
theorem d_law_213 : decode code 213 = .ok (.iload_n 3, 1) := by decide +kernel
theorem d_law_214 : decode code 214 = .ok (.iconst 1, 1) := by decide +kernel
theorem d_law_215 : decode code 215 = .ok (.iadd, 1) := by decide +kernel
theorem d_law_216 : decode code 216 = .ok (.iaload, 1) := by decide +kernel
theorem d_law_217 : decode code 217 = .ok (.invokevirtual 36, 3) := by decide +kernel
theorem d_law_220 : decode code 220 = .ok (.if_icmp .eq 84, 3) := by decide +kernel
theorem d_law_223 : decode code 223 = .ok (.iconst 0, 1) := by decide +kernel
theorem d_law_224 : decode code 224 = .ok (.ireturn, 1) := by decide +kernel
theorem d_law_225 : decode code 225 = .ok (.aload_n 1, 1) := by decide +kernel
theorem d_law_226 : decode code 226 = .ok (.aload_n 0, 1) := by decide +kernel
theorem d_law_227 : decode code 227 = .ok (.iload_n 3, 1) := by decide +kernel
theorem d_law_228 : decode code 228 = .ok (.iconst 1, 1) := by decide +kernel
theorem d_law_229 : decode code 229 = .ok (.iadd, 1) := by decide +kernel
theorem d_law_230 : decode code 230 = .ok (.iaload, 1) := by decide +kernel
theorem d_law_231 : decode code 231 = .ok (.aload_n 0, 1) := by decide +kernel
theorem d_law_232 : decode code 232 = .ok (.iload_n 3, 1) := by decide +kernel
theorem d_law_233 : decode code 233 = .ok (.iconst 2, 1) := by decide +kernel
theorem d_law_234 : decode code 234 = .ok (.iadd, 1) := by decide +kernel
theorem d_law_235 : decode code 235 = .ok (.iaload, 1) := by decide +kernel
theorem d_law_236 : decode code 236 = .ok (.invokevirtual 37, 3) := by decide +kernel
theorem d_law_239 : decode code 239 = .ok (.aload_n 2, 1) := by decide +kernel
theorem d_law_240 : decode code 240 = .ok (.aload_n 0, 1) := by decide +kernel
theorem d_law_241 : decode code 241 = .ok (.iload_n 3, 1) := by decide +kernel
theorem d_law_242 : decode code 242 = .ok (.iconst 1, 1) := by decide +kernel
theorem d_law_243 : decode code 243 = .ok (.iadd, 1) := by decide +kernel
theorem d_law_244 : decode code 244 = .ok (.iaload, 1) := by decide +kernel
theorem d_law_245 : decode code 245 = .ok (.aload_n 0, 1) := by decide +kernel
theorem d_law_246 : decode code 246 = .ok (.iload_n 3, 1) := by decide +kernel
theorem d_law_247 : decode code 247 = .ok (.iconst 2, 1) := by decide +kernel
theorem d_law_248 : decode code 248 = .ok (.iadd, 1) := by decide +kernel
theorem d_law_249 : decode code 249 = .ok (.iaload, 1) := by decide +kernel
theorem d_law_250 : decode code 250 = .ok (.invokevirtual 40, 3) := by decide +kernel
theorem d_law_253 : decode code 253 = .ok (.if_icmp .eq 51, 3) := by decide +kernel
theorem d_law_256 : decode code 256 = .ok (.iconst 0, 1) := by decide +kernel
theorem d_law_257 : decode code 257 = .ok (.ireturn, 1) := by decide +kernel
theorem d_law_258 : decode code 258 = .ok (.aload_n 1, 1) := by decide +kernel
theorem d_law_259 : decode code 259 = .ok (.aload_n 0, 1) := by decide +kernel
theorem d_law_260 : decode code 260 = .ok (.iload_n 3, 1) := by decide +kernel
theorem d_law_261 : decode code 261 = .ok (.iconst 1, 1) := by decide +kernel
theorem d_law_262 : decode code 262 = .ok (.iadd, 1) := by decide +kernel
theorem d_law_263 : decode code 263 = .ok (.iaload, 1) := by decide +kernel
theorem d_law_264 : decode code 264 = .ok (.invokevirtual 41, 3) := by decide +kernel
theorem d_law_267 : decode code 267 = .ok (.aload_n 2, 1) := by decide +kernel
theorem d_law_268 : decode code 268 = .ok (.aload_n 0, 1) := by decide +kernel
theorem d_law_269 : decode code 269 = .ok (.iload_n 3, 1) := by decide +kernel
theorem d_law_270 : decode code 270 = .ok (.iconst 1, 1) := by decide +kernel
theorem d_law_271 : decode code 271 = .ok (.iadd, 1) := by decide +kernel
theorem d_law_272 : decode code 272 = .ok (.iaload, 1) := by decide +kernel
theorem d_law_273 : decode code 273 = .ok (.invokevirtual 44, 3) := by decide +kernel
theorem d_law_276 : decode code 276 = .ok (.if_icmp .eq 28, 3) := by decide +kernel
theorem d_law_279 : decode code 279 = .ok (.iconst 0, 1) := by decide +kernel
theorem d_law_280 : decode code 280 = .ok (.ireturn, 1) := by decide +kernel
theorem d_law_281 : decode code 281 = .ok (.aload_n 1, 1) := by decide +kernel
theorem d_law_282 : decode code 282 = .ok (.aload_n 0, 1) := by decide +kernel
theorem d_law_283 : decode code 283 = .ok (.iload_n 3, 1) := by decide +kernel
theorem d_law_284 : decode code 284 = .ok (.iconst 1, 1) := by decide +kernel
theorem d_law_285 : decode code 285 = .ok (.iadd, 1) := by decide +kernel
theorem d_law_286 : decode code 286 = .ok (.iaload, 1) := by decide +kernel
theorem d_law_287 : decode code 287 = .ok (.invokevirtual 45, 3) := by decide +kernel
theorem d_law_290 : decode code 290 = .ok (.aload_n 2, 1) := by decide +kernel
theorem d_law_291 : decode code 291 = .ok (.aload_n 0, 1) := by decide +kernel
theorem d_law_292 : decode code 292 = .ok (.iload_n 3, 1) := by decide +kernel
theorem d_law_293 : decode code 293 = .ok (.iconst 1, 1) := by decide +kernel
theorem d_law_294 : decode code 294 = .ok (.iadd, 1) := by decide +kernel
theorem d_law_295 : decode code 295 = .ok (.iaload, 1) := by decide +kernel
theorem d_law_296 : decode code 296 = .ok (.invokevirtual 48, 3) := by decide +kernel
theorem d_law_299 : decode code 299 = .ok (.if_icmp .eq 5, 3) := by decide +kernel
theorem d_law_302 : decode code 302 = .ok (.iconst 0, 1) := by decide +kernel
theorem d_law_303 : decode code 303 = .ok (.ireturn, 1) := by decide +kernel
theorem d_law_304 : decode code 304 = .ok (.iinc 3 5, 3) := by decide +kernel
theorem d_law_307 : decode code 307 = .ok (.goto (-289), 3) := by decide +kernel
theorem d_law_310 : decode code 310 = .ok (.iconst 1, 1) := by decide +kernel
theorem d_law_311 : decode code 311 = .ok (.ireturn, 1) := by decide +kernel
set_option maxHeartbeats 8000000 in
set_option maxRecDepth 100000 in
theorem law_loop {NF : Nat} {Rel : RelT} (hp : PureOK NF Rel) {p : Program} {l : Launch} {e : Env} {s : State} {m : MethodId} {below : List Frame} {meth : Method} {c : Code} {b L : Nat} {xs : Nat → Int32} (hL : L ≤ 2560) (C0 : lw_At p s m meth c b L xs) {D : va_G} {cI cL : ClassId} {ad am : Nat → Nat} (hK : va_K D clX (tyX cI cL) s) (hz : zt (fun q : Nat => s.heap.size ≤ q) s) (hdj : dj2 ad am) :
    ∀ (k i : Nat), i ≤ L → L + 1 ≤ i + k → ∀ (ma : T_ma) (ko : T_ko) (sh : T_sh) (lo : T_lo) (de : T_de) (wa : T_wa) (me : T_me) (ru : T_ru) (mc : T_mc) (mq : T_mq) (mr : T_mr), Rel ma ko sh lo de wa me ru mc mq mr → ∀ (H : Heap) (locs : List Loc) (ls : Array Slot), va_P D clX (wX cI cL ad ma ko sh lo de wa me ru) H → va_P D clX (wM cI cL am mc mq mr) H → va_D (fun q : Nat => s.heap.size ≤ q) (wX cI cL ad ma ko sh lo de wa me ru) → va_D (fun q : Nat => s.heap.size ≤ q) (wM cI cL am mc mq mr) → va_S (fun q : Nat => s.heap.size ≤ q) s.heap H locs → lv_has ls 4 [(0, .ref b), (1, .ref (ad 0)), (2, .ref (am 0)), (3, .int (nI i))] → W p l e room_1 s m #[Value.ref b] below meth c H locs 44 15449 (lw_Z below #[Value.ref b] s) (F0 m 18 ls []) := by
  obtain ⟨hx, hb, hr, hml, hown, htsL, hX, hbl, hlocks, hgv⟩ := C0
  have hown : s.vm.findClass "ScanMachineLaw" = some m.cls := hown
  have hts : ∀ w ∈ TB, w.before #[Value.ref b] s = true := fun w h => htsL w (tb_in h)
  have hA : ∀ q : Nat, s.heap.size ≤ q → (fun q : Nat => s.heap.size ≤ q) q := fun _ h => h
  have hbA : ¬ (fun q : Nat => s.heap.size ≤ q) b := Nat.not_le.mpr hbl
  intro k
  induction k with
  | zero => intro i h1 h2; exact absurd h2 (by omega)
  | succ k ih =>
    intro i hi hik ma ko sh lo de wa me ru mc mq mr hRel H locs ls hPX hPM hDX hDM hS hl
    refine lv_iload_n hx hb d_law_18 rfl (lv_at hl 3 rfl) ?_
    refine lv_aload_n hx hb d_law_19 rfl (lv_at hl 0 rfl) ?_
    refine va_slen hx hb hX hbl hbA hS d_law_20 ?_
    refine lv_iconst (v := 5) hx hb d_law_21 (by decide) ?_
    refine lv_isub hx hb d_law_22 ?_
    refine lv_icmp_gt (tgt := 310) hx hb d_law_23 (by decide) (fun c1 => ?_) (fun c1 => ?_)
    · refine lv_iconst (v := 1) hx hb d_law_310 (by decide) ?_
      refine va_forget (fun q hq => hS.2.2 q hq) ?_
      exact lw_ret hx hb hr hlocks d_law_311
    · have hlt : i + 5 ≤ L := by
        rcases Nat.lt_or_ge L (i + 5) with q | q
        · exact absurd ((li_gt hL hi).mpr q) c1
        · exact q
      have hi1 : vp_in (nI i + 1) L := li_in (j := 1) rfl (by omega) hL
      have hi2 : vp_in (nI i + 2) L := li_in (j := 2) rfl (by omega) hL
      have hi3 : vp_in (nI i + 3) L := li_in (j := 3) rfl (by omega) hL
      have hi4 : vp_in (nI i + 4) L := li_in (j := 4) rfl (by omega) hL
      have hi0 : vp_in (nI i) L := vp_in_nI (by omega) (by omega)
      refine lv_aload_n hx hb d_law_26 rfl (lv_at hl 0 rfl) ?_
      refine lv_iload_n hx hb d_law_27 rfl (lv_at hl 3 rfl) ?_
      refine va_sld hx hb hX hbl hbA hS hi0 d_law_28 ?_
      refine lv_bipush (v := 7) hx hb d_law_29 (by decide) ?_
      refine lv_iand hx hb d_law_31 ?_
      obtain ⟨w, hw, ew⟩ := pk_andE (xs (nI i).toNatClampNeg) (m := 7) 3 (by decide)
      refine k_sw ew ?_
      have fin : ∀ (ma : T_ma) (ko : T_ko) (sh : T_sh) (lo : T_lo) (de : T_de) (wa : T_wa) (me : T_me) (ru : T_ru) (mc : T_mc) (mq : T_mq) (mr : T_mr), Rel ma ko sh lo de wa me ru mc mq mr → ∀ (H : Heap) (locs : List Loc), va_P D clX (wX cI cL ad ma ko sh lo de wa me ru) H → va_P D clX (wM cI cL am mc mq mr) H → va_D (fun q : Nat => s.heap.size ≤ q) (wX cI cL ad ma ko sh lo de wa me ru) → va_D (fun q : Nat => s.heap.size ≤ q) (wM cI cL am mc mq mr) → va_S (fun q : Nat => s.heap.size ≤ q) s.heap H locs → W p l e room_1 s m #[Value.ref b] below meth c H locs 44 15449 (lw_Z below #[Value.ref b] s) (F0 m 304 ls []) := by
        intro ma ko sh lo de wa me ru mc mq mr hRel H locs hPX hPM hDX hDM hS
        refine lv_iinc (v := nI (i + 5)) (lv' := [(3, .int (nI (i + 5))), (0, .ref b), (1, .ref (ad 0)), (2, .ref (am 0))]) hx hb d_law_304 hl (k := 3) rfl (nI_add i 5) (by decide) rfl (fun ls hl => ?_)
        refine lv_goto (tgt := 18) hx hb d_law_307 (by decide) ?_
        exact ih (i + 5) hlt (by omega) ma ko sh lo de wa me ru mc mq mr hRel _ _ _ hPX hPM hDX hDM hS (lv_sub hl [1, 2, 3, 0] rfl)
      match w, hw with
      | 0, _ =>
        refine lv_tableIn (tgt := 80) hx hb d_law_32 (by decide) (by decide) rfl (by decide) ?_
        obtain ⟨r, ma', ko', me', ru', mc', mr', e1, e2, hRel'⟩ := (hp.2 ma ko sh lo de wa me ru mc mq mr hRel).1 (xs (nI i + 1).toNatClampNeg)
        refine lv_aload_n hx hb d_law_80 rfl (lv_at hl 1 rfl) ?_
        refine lv_aload_n hx hb d_law_81 rfl (lv_at hl 0 rfl) ?_
        refine lv_iload_n hx hb d_law_82 rfl (lv_at hl 3 rfl) ?_
        refine lv_iconst (v := 1) hx hb d_law_83 (by decide) ?_
        refine lv_iadd hx hb d_law_84 ?_
        refine va_sld hx hb hX hbl hbA hS hi1 d_law_85 ?_
        refine k_I2 (k_runV ⟨hx, hb, hml, hown, hts⟩ (c_Sm_begin rfl e1) ok_Sm_begin is_Sm_begin lk_263 rfl rfl ⟨by decide, by decide⟩ hPX hK hDX hS hA hz (ci := 0) (q0 := 0) rfl rfl ob_Sm rfl hl.1 rfl (Nat.le_of_ble_eq_true rfl) d_law_86 ⟨by decide, by decide⟩) hPM hDX hS hA (dj_XM hdj) (fun H locs hPX hPM hDX hS => ?_)
        refine lv_aload_n hx hb d_law_89 rfl (lv_at hl 2 rfl) ?_
        refine lv_aload_n hx hb d_law_90 rfl (lv_at hl 0 rfl) ?_
        refine lv_iload_n hx hb d_law_91 rfl (lv_at hl 3 rfl) ?_
        refine lv_iconst (v := 1) hx hb d_law_92 (by decide) ?_
        refine lv_iadd hx hb d_law_93 ?_
        refine va_sld hx hb hX hbl hbA hS hi1 d_law_94 ?_
        refine k_I2 (k_runV ⟨hx, hb, hml, hown, hts⟩ (c_Mo_begin rfl e2) ok_Mo_begin is_Mo_begin lk_772 rfl rfl ⟨by decide, by decide⟩ hPM hK hDM hS hA hz (ci := 9) (q0 := 0) rfl rfl ob_Mo rfl hl.1 rfl (Nat.le_of_ble_eq_true rfl) d_law_95 ⟨by decide, by decide⟩) hPX hDM hS hA (dj_MX hdj) (fun H locs hPM hPX hDM hS => ?_)
        refine lv_icmp_eq (tgt := 304) hx hb d_law_98 (by decide) (fun _ => ?_) (fun c9 => absurd rfl c9)
        exact fin _ _ _ _ _ _ _ _ _ _ _ hRel' _ _ hPX hPM hDX hDM hS
      | 1, _ =>
        refine lv_tableIn (tgt := 103) hx hb d_law_32 (by decide) (by decide) rfl (by decide) ?_
        obtain ⟨r, ma', ko', me', ru', mc', mr', e1, e2, hRel'⟩ := (hp.2 ma ko sh lo de wa me ru mc mq mr hRel).2.1 (xs (nI i + 1).toNatClampNeg) (xs (nI i + 2).toNatClampNeg)
        refine lv_aload_n hx hb d_law_103 rfl (lv_at hl 1 rfl) ?_
        refine lv_aload_n hx hb d_law_104 rfl (lv_at hl 0 rfl) ?_
        refine lv_iload_n hx hb d_law_105 rfl (lv_at hl 3 rfl) ?_
        refine lv_iconst (v := 1) hx hb d_law_106 (by decide) ?_
        refine lv_iadd hx hb d_law_107 ?_
        refine va_sld hx hb hX hbl hbA hS hi1 d_law_108 ?_
        refine lv_aload_n hx hb d_law_109 rfl (lv_at hl 0 rfl) ?_
        refine lv_iload_n hx hb d_law_110 rfl (lv_at hl 3 rfl) ?_
        refine lv_iconst (v := 2) hx hb d_law_111 (by decide) ?_
        refine lv_iadd hx hb d_law_112 ?_
        refine va_sld hx hb hX hbl hbA hS hi2 d_law_113 ?_
        refine k_I2 (k_runV ⟨hx, hb, hml, hown, hts⟩ (c_Sm_unit rfl e1) ok_Sm_unit is_Sm_unit lk_286 rfl rfl ⟨by decide, by decide⟩ hPX hK hDX hS hA hz (ci := 0) (q0 := 0) rfl rfl ob_Sm rfl hl.1 rfl (Nat.le_of_ble_eq_true rfl) d_law_114 ⟨by decide, by decide⟩) hPM hDX hS hA (dj_XM hdj) (fun H locs hPX hPM hDX hS => ?_)
        refine lv_aload_n hx hb d_law_117 rfl (lv_at hl 2 rfl) ?_
        refine lv_aload_n hx hb d_law_118 rfl (lv_at hl 0 rfl) ?_
        refine lv_iload_n hx hb d_law_119 rfl (lv_at hl 3 rfl) ?_
        refine lv_iconst (v := 1) hx hb d_law_120 (by decide) ?_
        refine lv_iadd hx hb d_law_121 ?_
        refine va_sld hx hb hX hbl hbA hS hi1 d_law_122 ?_
        refine lv_aload_n hx hb d_law_123 rfl (lv_at hl 0 rfl) ?_
        refine lv_iload_n hx hb d_law_124 rfl (lv_at hl 3 rfl) ?_
        refine lv_iconst (v := 2) hx hb d_law_125 (by decide) ?_
        refine lv_iadd hx hb d_law_126 ?_
        refine va_sld hx hb hX hbl hbA hS hi2 d_law_127 ?_
        refine k_I2 (k_runV ⟨hx, hb, hml, hown, hts⟩ (c_Mo_unit rfl e2) ok_Mo_unit is_Mo_unit lk_773 rfl rfl ⟨by decide, by decide⟩ hPM hK hDM hS hA hz (ci := 9) (q0 := 0) rfl rfl ob_Mo rfl hl.1 rfl (Nat.le_of_ble_eq_true rfl) d_law_128 ⟨by decide, by decide⟩) hPX hDM hS hA (dj_MX hdj) (fun H locs hPM hPX hDM hS => ?_)
        refine lv_icmp_eq (tgt := 304) hx hb d_law_131 (by decide) (fun _ => ?_) (fun c9 => absurd rfl c9)
        exact fin _ _ _ _ _ _ _ _ _ _ _ hRel' _ _ hPX hPM hDX hDM hS
      | 2, _ =>
        refine lv_tableIn (tgt := 136) hx hb d_law_32 (by decide) (by decide) rfl (by decide) ?_
        obtain ⟨r, ma', ko', me', ru', mc', mr', e1, e2, hRel'⟩ := (hp.2 ma ko sh lo de wa me ru mc mq mr hRel).2.2.1 (xs (nI i + 1).toNatClampNeg) (xs (nI i + 2).toNatClampNeg) (xs (nI i + 3).toNatClampNeg) (xs (nI i + 4).toNatClampNeg)
        refine lv_aload_n hx hb d_law_136 rfl (lv_at hl 1 rfl) ?_
        refine lv_aload_n hx hb d_law_137 rfl (lv_at hl 0 rfl) ?_
        refine lv_iload_n hx hb d_law_138 rfl (lv_at hl 3 rfl) ?_
        refine lv_iconst (v := 1) hx hb d_law_139 (by decide) ?_
        refine lv_iadd hx hb d_law_140 ?_
        refine va_sld hx hb hX hbl hbA hS hi1 d_law_141 ?_
        refine lv_aload_n hx hb d_law_142 rfl (lv_at hl 0 rfl) ?_
        refine lv_iload_n hx hb d_law_143 rfl (lv_at hl 3 rfl) ?_
        refine lv_iconst (v := 2) hx hb d_law_144 (by decide) ?_
        refine lv_iadd hx hb d_law_145 ?_
        refine va_sld hx hb hX hbl hbA hS hi2 d_law_146 ?_
        refine lv_aload_n hx hb d_law_147 rfl (lv_at hl 0 rfl) ?_
        refine lv_iload_n hx hb d_law_148 rfl (lv_at hl 3 rfl) ?_
        refine lv_iconst (v := 3) hx hb d_law_149 (by decide) ?_
        refine lv_iadd hx hb d_law_150 ?_
        refine va_sld hx hb hX hbl hbA hS hi3 d_law_151 ?_
        refine lv_aload_n hx hb d_law_152 rfl (lv_at hl 0 rfl) ?_
        refine lv_iload_n hx hb d_law_153 rfl (lv_at hl 3 rfl) ?_
        refine lv_iconst (v := 4) hx hb d_law_154 (by decide) ?_
        refine lv_iadd hx hb d_law_155 ?_
        refine va_sld hx hb hX hbl hbA hS hi4 d_law_156 ?_
        refine k_I2 (k_runV ⟨hx, hb, hml, hown, hts⟩ (c_Sm_add rfl e1) ok_Sm_add is_Sm_add lk_299 rfl rfl ⟨by decide, by decide⟩ hPX hK hDX hS hA hz (ci := 0) (q0 := 0) rfl rfl ob_Sm rfl hl.1 rfl (Nat.le_of_ble_eq_true rfl) d_law_157 ⟨by decide, by decide⟩) hPM hDX hS hA (dj_XM hdj) (fun H locs hPX hPM hDX hS => ?_)
        refine lv_aload_n hx hb d_law_160 rfl (lv_at hl 2 rfl) ?_
        refine lv_aload_n hx hb d_law_161 rfl (lv_at hl 0 rfl) ?_
        refine lv_iload_n hx hb d_law_162 rfl (lv_at hl 3 rfl) ?_
        refine lv_iconst (v := 1) hx hb d_law_163 (by decide) ?_
        refine lv_iadd hx hb d_law_164 ?_
        refine va_sld hx hb hX hbl hbA hS hi1 d_law_165 ?_
        refine lv_aload_n hx hb d_law_166 rfl (lv_at hl 0 rfl) ?_
        refine lv_iload_n hx hb d_law_167 rfl (lv_at hl 3 rfl) ?_
        refine lv_iconst (v := 2) hx hb d_law_168 (by decide) ?_
        refine lv_iadd hx hb d_law_169 ?_
        refine va_sld hx hb hX hbl hbA hS hi2 d_law_170 ?_
        refine lv_aload_n hx hb d_law_171 rfl (lv_at hl 0 rfl) ?_
        refine lv_iload_n hx hb d_law_172 rfl (lv_at hl 3 rfl) ?_
        refine lv_iconst (v := 3) hx hb d_law_173 (by decide) ?_
        refine lv_iadd hx hb d_law_174 ?_
        refine va_sld hx hb hX hbl hbA hS hi3 d_law_175 ?_
        refine lv_aload_n hx hb d_law_176 rfl (lv_at hl 0 rfl) ?_
        refine lv_iload_n hx hb d_law_177 rfl (lv_at hl 3 rfl) ?_
        refine lv_iconst (v := 4) hx hb d_law_178 (by decide) ?_
        refine lv_iadd hx hb d_law_179 ?_
        refine va_sld hx hb hX hbl hbA hS hi4 d_law_180 ?_
        refine k_I2 (k_runV ⟨hx, hb, hml, hown, hts⟩ (c_Mo_add rfl e2) ok_Mo_add is_Mo_add lk_777 rfl rfl ⟨by decide, by decide⟩ hPM hK hDM hS hA hz (ci := 9) (q0 := 0) rfl rfl ob_Mo rfl hl.1 rfl (Nat.le_of_ble_eq_true rfl) d_law_181 ⟨by decide, by decide⟩) hPX hDM hS hA (dj_MX hdj) (fun H locs hPM hPX hDM hS => ?_)
        refine lv_icmp_eq (tgt := 304) hx hb d_law_184 (by decide) (fun _ => ?_) (fun c9 => absurd rfl c9)
        exact fin _ _ _ _ _ _ _ _ _ _ _ hRel' _ _ hPX hPM hDX hDM hS
      | 3, _ =>
        refine lv_tableIn (tgt := 189) hx hb d_law_32 (by decide) (by decide) rfl (by decide) ?_
        obtain ⟨r, ma', sh', lo', de', wa', me', ru', mq', mr', e1, e2, hRel'⟩ := (hp.2 ma ko sh lo de wa me ru mc mq mr hRel).2.2.2.1 
        refine lv_aload_n hx hb d_law_189 rfl (lv_at hl 1 rfl) ?_
        refine k_I2 (k_runV ⟨hx, hb, hml, hown, hts⟩ (c_Sm_start rfl e1) ok_Sm_start is_Sm_start lk_312 rfl rfl ⟨by decide, by decide⟩ hPX hK hDX hS hA hz (ci := 0) (q0 := 0) rfl rfl ob_Sm rfl hl.1 rfl (Nat.le_of_ble_eq_true rfl) d_law_190 ⟨by decide, by decide⟩) hPM hDX hS hA (dj_XM hdj) (fun H locs hPX hPM hDX hS => ?_)
        refine lv_aload_n hx hb d_law_193 rfl (lv_at hl 2 rfl) ?_
        refine k_I2 (k_runV ⟨hx, hb, hml, hown, hts⟩ (c_Mo_start rfl e2) ok_Mo_start is_Mo_start lk_781 rfl rfl ⟨by decide, by decide⟩ hPM hK hDM hS hA hz (ci := 9) (q0 := 0) rfl rfl ob_Mo rfl hl.1 rfl (Nat.le_of_ble_eq_true rfl) d_law_194 ⟨by decide, by decide⟩) hPX hDM hS hA (dj_MX hdj) (fun H locs hPM hPX hDM hS => ?_)
        refine lv_icmp_eq (tgt := 304) hx hb d_law_197 (by decide) (fun _ => ?_) (fun c9 => absurd rfl c9)
        exact fin _ _ _ _ _ _ _ _ _ _ _ hRel' _ _ hPX hPM hDX hDM hS
      | 4, _ =>
        refine lv_tableIn (tgt := 202) hx hb d_law_32 (by decide) (by decide) rfl (by decide) ?_
        obtain ⟨r, ma', me', ru', mr', e1, e2, hRel'⟩ := (hp.2 ma ko sh lo de wa me ru mc mq mr hRel).2.2.2.2.1 (xs (nI i + 1).toNatClampNeg)
        refine lv_aload_n hx hb d_law_202 rfl (lv_at hl 1 rfl) ?_
        refine lv_aload_n hx hb d_law_203 rfl (lv_at hl 0 rfl) ?_
        refine lv_iload_n hx hb d_law_204 rfl (lv_at hl 3 rfl) ?_
        refine lv_iconst (v := 1) hx hb d_law_205 (by decide) ?_
        refine lv_iadd hx hb d_law_206 ?_
        refine va_sld hx hb hX hbl hbA hS hi1 d_law_207 ?_
        refine k_I2 (k_runV ⟨hx, hb, hml, hown, hts⟩ (c_Sm_scan rfl e1) ok_Sm_scan is_Sm_scan lk_518 rfl rfl ⟨by decide, by decide⟩ hPX hK hDX hS hA hz (ci := 0) (q0 := 0) rfl rfl ob_Sm rfl hl.1 rfl (Nat.le_of_ble_eq_true rfl) d_law_208 ⟨by decide, by decide⟩) hPM hDX hS hA (dj_XM hdj) (fun H locs hPX hPM hDX hS => ?_)
        refine lv_aload_n hx hb d_law_211 rfl (lv_at hl 2 rfl) ?_
        refine lv_aload_n hx hb d_law_212 rfl (lv_at hl 0 rfl) ?_
        refine lv_iload_n hx hb d_law_213 rfl (lv_at hl 3 rfl) ?_
        refine lv_iconst (v := 1) hx hb d_law_214 (by decide) ?_
        refine lv_iadd hx hb d_law_215 ?_
        refine va_sld hx hb hX hbl hbA hS hi1 d_law_216 ?_
        refine k_I2 (k_runV ⟨hx, hb, hml, hown, hts⟩ (c_Mo_scan rfl e2) ok_Mo_scan is_Mo_scan lk_904 rfl rfl ⟨by decide, by decide⟩ hPM hK hDM hS hA hz (ci := 9) (q0 := 0) rfl rfl ob_Mo rfl hl.1 rfl (Nat.le_of_ble_eq_true rfl) d_law_217 ⟨by decide, by decide⟩) hPX hDM hS hA (dj_MX hdj) (fun H locs hPM hPX hDM hS => ?_)
        refine lv_icmp_eq (tgt := 304) hx hb d_law_220 (by decide) (fun _ => ?_) (fun c9 => absurd rfl c9)
        exact fin _ _ _ _ _ _ _ _ _ _ _ hRel' _ _ hPX hPM hDX hDM hS
      | 5, _ =>
        refine lv_tableIn (tgt := 225) hx hb d_law_32 (by decide) (by decide) rfl (by decide) ?_
        obtain ⟨r, me', mr', e1, e2, hRel'⟩ := (hp.2 ma ko sh lo de wa me ru mc mq mr hRel).2.2.2.2.2.1 (xs (nI i + 1).toNatClampNeg) (xs (nI i + 2).toNatClampNeg)
        refine lv_aload_n hx hb d_law_225 rfl (lv_at hl 1 rfl) ?_
        refine lv_aload_n hx hb d_law_226 rfl (lv_at hl 0 rfl) ?_
        refine lv_iload_n hx hb d_law_227 rfl (lv_at hl 3 rfl) ?_
        refine lv_iconst (v := 1) hx hb d_law_228 (by decide) ?_
        refine lv_iadd hx hb d_law_229 ?_
        refine va_sld hx hb hX hbl hbA hS hi1 d_law_230 ?_
        refine lv_aload_n hx hb d_law_231 rfl (lv_at hl 0 rfl) ?_
        refine lv_iload_n hx hb d_law_232 rfl (lv_at hl 3 rfl) ?_
        refine lv_iconst (v := 2) hx hb d_law_233 (by decide) ?_
        refine lv_iadd hx hb d_law_234 ?_
        refine va_sld hx hb hX hbl hbA hS hi2 d_law_235 ?_
        refine k_I2 (k_runV ⟨hx, hb, hml, hown, hts⟩ (c_Sm_set rfl e1) ok_Sm_set is_Sm_set lk_655 rfl rfl ⟨by decide, by decide⟩ hPX hK hDX hS hA hz (ci := 0) (q0 := 0) rfl rfl ob_Sm rfl hl.1 rfl (Nat.le_of_ble_eq_true rfl) d_law_236 ⟨by decide, by decide⟩) hPM hDX hS hA (dj_XM hdj) (fun H locs hPX hPM hDX hS => ?_)
        refine lv_aload_n hx hb d_law_239 rfl (lv_at hl 2 rfl) ?_
        refine lv_aload_n hx hb d_law_240 rfl (lv_at hl 0 rfl) ?_
        refine lv_iload_n hx hb d_law_241 rfl (lv_at hl 3 rfl) ?_
        refine lv_iconst (v := 1) hx hb d_law_242 (by decide) ?_
        refine lv_iadd hx hb d_law_243 ?_
        refine va_sld hx hb hX hbl hbA hS hi1 d_law_244 ?_
        refine lv_aload_n hx hb d_law_245 rfl (lv_at hl 0 rfl) ?_
        refine lv_iload_n hx hb d_law_246 rfl (lv_at hl 3 rfl) ?_
        refine lv_iconst (v := 2) hx hb d_law_247 (by decide) ?_
        refine lv_iadd hx hb d_law_248 ?_
        refine va_sld hx hb hX hbl hbA hS hi2 d_law_249 ?_
        refine k_I2 (k_runV ⟨hx, hb, hml, hown, hts⟩ (c_Mo_set rfl e2) ok_Mo_set is_Mo_set lk_954 rfl rfl ⟨by decide, by decide⟩ hPM hK hDM hS hA hz (ci := 9) (q0 := 0) rfl rfl ob_Mo rfl hl.1 rfl (Nat.le_of_ble_eq_true rfl) d_law_250 ⟨by decide, by decide⟩) hPX hDM hS hA (dj_MX hdj) (fun H locs hPM hPX hDM hS => ?_)
        refine lv_icmp_eq (tgt := 304) hx hb d_law_253 (by decide) (fun _ => ?_) (fun c9 => absurd rfl c9)
        exact fin _ _ _ _ _ _ _ _ _ _ _ hRel' _ _ hPX hPM hDX hDM hS
      | 6, _ =>
        refine lv_tableIn (tgt := 258) hx hb d_law_32 (by decide) (by decide) rfl (by decide) ?_
        obtain ⟨r, e1, e2, hRel'⟩ := (hp.2 ma ko sh lo de wa me ru mc mq mr hRel).2.2.2.2.2.2.1 (xs (nI i + 1).toNatClampNeg)
        refine lv_aload_n hx hb d_law_258 rfl (lv_at hl 1 rfl) ?_
        refine lv_aload_n hx hb d_law_259 rfl (lv_at hl 0 rfl) ?_
        refine lv_iload_n hx hb d_law_260 rfl (lv_at hl 3 rfl) ?_
        refine lv_iconst (v := 1) hx hb d_law_261 (by decide) ?_
        refine lv_iadd hx hb d_law_262 ?_
        refine va_sld hx hb hX hbl hbA hS hi1 d_law_263 ?_
        refine k_I2 (k_runV ⟨hx, hb, hml, hown, hts⟩ (c_Sm_get rfl e1) ok_Sm_get is_Sm_get lk_665 rfl rfl ⟨by decide, by decide⟩ hPX hK hDX hS hA hz (ci := 0) (q0 := 0) rfl rfl ob_Sm rfl hl.1 rfl (Nat.le_of_ble_eq_true rfl) d_law_264 ⟨by decide, by decide⟩) hPM hDX hS hA (dj_XM hdj) (fun H locs hPX hPM hDX hS => ?_)
        refine lv_aload_n hx hb d_law_267 rfl (lv_at hl 2 rfl) ?_
        refine lv_aload_n hx hb d_law_268 rfl (lv_at hl 0 rfl) ?_
        refine lv_iload_n hx hb d_law_269 rfl (lv_at hl 3 rfl) ?_
        refine lv_iconst (v := 1) hx hb d_law_270 (by decide) ?_
        refine lv_iadd hx hb d_law_271 ?_
        refine va_sld hx hb hX hbl hbA hS hi1 d_law_272 ?_
        refine k_I2 (k_runV ⟨hx, hb, hml, hown, hts⟩ (c_Mo_get rfl e2) ok_Mo_get is_Mo_get lk_958 rfl rfl ⟨by decide, by decide⟩ hPM hK hDM hS hA hz (ci := 9) (q0 := 0) rfl rfl ob_Mo rfl hl.1 rfl (Nat.le_of_ble_eq_true rfl) d_law_273 ⟨by decide, by decide⟩) hPX hDM hS hA (dj_MX hdj) (fun H locs hPM hPX hDM hS => ?_)
        refine lv_icmp_eq (tgt := 304) hx hb d_law_276 (by decide) (fun _ => ?_) (fun c9 => absurd rfl c9)
        exact fin _ _ _ _ _ _ _ _ _ _ _ hRel' _ _ hPX hPM hDX hDM hS
      | 7, _ =>
        refine lv_tableIn (tgt := 281) hx hb d_law_32 (by decide) (by decide) rfl (by decide) ?_
        obtain ⟨r, e1, e2, hRel'⟩ := (hp.2 ma ko sh lo de wa me ru mc mq mr hRel).2.2.2.2.2.2.2 (xs (nI i + 1).toNatClampNeg)
        refine lv_aload_n hx hb d_law_281 rfl (lv_at hl 1 rfl) ?_
        refine lv_aload_n hx hb d_law_282 rfl (lv_at hl 0 rfl) ?_
        refine lv_iload_n hx hb d_law_283 rfl (lv_at hl 3 rfl) ?_
        refine lv_iconst (v := 1) hx hb d_law_284 (by decide) ?_
        refine lv_iadd hx hb d_law_285 ?_
        refine va_sld hx hb hX hbl hbA hS hi1 d_law_286 ?_
        refine k_I2 (k_runV ⟨hx, hb, hml, hown, hts⟩ (c_Sm_count rfl e1) ok_Sm_count is_Sm_count lk_669 rfl rfl ⟨by decide, by decide⟩ hPX hK hDX hS hA hz (ci := 0) (q0 := 0) rfl rfl ob_Sm rfl hl.1 rfl (Nat.le_of_ble_eq_true rfl) d_law_287 ⟨by decide, by decide⟩) hPM hDX hS hA (dj_XM hdj) (fun H locs hPX hPM hDX hS => ?_)
        refine lv_aload_n hx hb d_law_290 rfl (lv_at hl 2 rfl) ?_
        refine lv_aload_n hx hb d_law_291 rfl (lv_at hl 0 rfl) ?_
        refine lv_iload_n hx hb d_law_292 rfl (lv_at hl 3 rfl) ?_
        refine lv_iconst (v := 1) hx hb d_law_293 (by decide) ?_
        refine lv_iadd hx hb d_law_294 ?_
        refine va_sld hx hb hX hbl hbA hS hi1 d_law_295 ?_
        refine k_I2 (k_runV ⟨hx, hb, hml, hown, hts⟩ (c_Mo_count rfl e2) ok_Mo_count is_Mo_count lk_962 rfl rfl ⟨by decide, by decide⟩ hPM hK hDM hS hA hz (ci := 9) (q0 := 0) rfl rfl ob_Mo rfl hl.1 rfl (Nat.le_of_ble_eq_true rfl) d_law_296 ⟨by decide, by decide⟩) hPX hDM hS hA (dj_MX hdj) (fun H locs hPM hPX hDM hS => ?_)
        refine lv_icmp_eq (tgt := 304) hx hb d_law_299 (by decide) (fun _ => ?_) (fun c9 => absurd rfl c9)
        exact fin _ _ _ _ _ _ _ _ _ _ _ hRel' _ _ hPX hPM hDX hDM hS
      | w + 8, h => exact absurd h (by omega)
