/-! unit and add -/
theorem ga_eq {α : Type} {x : Int32} {i N : Nat} {k : Option α} (hx : x = nI i) (h : i < N) (hN : N < 2147483648) : ga x N k = k := by rw [hx]; exact ga_nI h hN
theorem gr_eq {α β : Type} {f : Nat → β} {x : Int32} {i N : Nat} {k : β → Option α} (hx : x = nI i) (h : i < N) (hN : N < 2147483648) : gr f x N k = k (f i) := by rw [hx]; exact gr_nI h hN
theorem upd_at {f : Nat → Int32} {k : Nat} {v : Int32} : upd f k v k = v := if_pos rfl
theorem upd_ne {f : Nat → Int32} {k j : Nat} {v : Int32} (h : j ≠ k) : upd f k v j = f j := if_neg h
theorem nI_cl1 {x : Int32} {u : Nat} (h : x = nI u) (hu : u < 2147483647) : (x + 1).toNatClampNeg = u + 1 := by rw [h, nI_1, nI_clamp (by omega)]
theorem fi_mono {mc : T_mc} (hc : CodeOK mc) {u v : Nat} (h : u ≤ v) (hv : v ≤ nU mc) : fi mc u ≤ fi mc v := by
  induction v with
  | zero => rw [Nat.le_zero.mp h]; exact Nat.le_refl _
  | succ v ih =>
    by_cases e : u = v + 1
    · rw [e]; exact Nat.le_refl _
    · exact Nat.le_trans (ih (by omega) (by omega)) (hc.2.2.2.2.2.1 v (by omega))
theorem unit_M {n : Nat} {mc : T_mc} {mr mr' : T_mr} (hc : CodeOK mc) (hs : r_Mo_stop n mr = some mr') (hU : nU mc < 16) {a b : Int32} (c2 : ¬ a < 0) (c3 : ¬ 4096 < a) (c4 : ¬ b < -1) (c5 : b ≤ 4095) :
    ∃ mc', r_Mo_unit n mc mr a b = some (nI (nU mc), mc', mr') ∧ mc_size mc' = mc_size mc ∧ mc_units mc' = nI (nU mc + 1) ∧ mc_total mc' = mc_total mc ∧ mc_frames mc' = upd (mc_frames mc) (nU mc) a ∧ mc_places mc' = upd (mc_places mc) (nU mc) b ∧ mc_firsts mc' = upd (upd (mc_firsts mc) (nU mc) (mc_total mc)) (nU mc + 1) (mc_total mc) ∧ mc_numbers mc' = mc_numbers mc ∧ mc_as_ mc' = mc_as_ mc ∧ mc_bs mc' = mc_bs mc ∧ mc_cs mc' = mc_cs mc := by
  have hu := hc.1
  have c1 : ¬ mc_units mc = 16 := by rw [hu, i_eq, nI_t (by omega)]; show ¬ _ = (16 : Int); omega
  have hu1 : mc_units mc + 1 = nI (nU mc + 1) := by rw [hu, nI_1]
  have hm : (mc_units mc + 1) - 1 = nI (nU mc) := by rw [hu1]; exact nI_pred _
  unfold r_Mo_unit
  rw [if_neg c1, if_neg c2, if_neg c3, if_neg c4, if_pos c5, hs]
  apply Exists.intro
  apply And.intro
  · refine (ga_eq hu hU (by decide)).trans ?_
    refine (ga_eq hu hU (by decide)).trans ?_
    refine (ga_eq hu (show nU mc < 17 by omega) (by decide)).trans ?_
    refine (ga_eq hu1 (show nU mc + 1 < 17 by omega) (by decide)).trans ?_
    refine congrArg some ?_
    refine Prod.ext hm ?_
    exact Prod.ext rfl rfl
  · refine ⟨rfl, hu1, rfl, rfl, rfl, ?_, rfl, rfl, rfl, rfl⟩
    show upd _ ((mc_units mc + 1).toNatClampNeg) _ = _
    rw [nI_cl1 hu (by omega)]; rfl
theorem unit_X {n : Nat} {ko : T_ko} {U : Nat} (hu : ko_units ko = nI U) (hU : U < 16) {a b : Int32} :
    ∃ ko', r_Co_appendUnit n ko a b = some (nI U, ko') ∧ ko_units ko' = nI (U + 1) ∧ ko_length ko' = ko_length ko ∧ ko_frames ko' = upd (ko_frames ko) U a ∧ ko_places ko' = upd (ko_places ko) U b ∧ ko_firsts ko' = upd (ko_firsts ko) U (ko_length ko) ∧ ko_sizes ko' = upd (ko_sizes ko) U 0 ∧ ko_numbers ko' = ko_numbers ko ∧ ko_as_ ko' = ko_as_ ko ∧ ko_bs ko' = ko_bs ko ∧ ko_cs ko' = ko_cs ko := by
  have hcl : (ko_units ko).toNatClampNeg = U := by rw [hu]; exact nI_clamp (by omega)
  have c1 : ¬ (16 : Int32) ≤ ko_units ko := by rw [hu, i_le, nI_t (by omega)]; show ¬ (16 : Int) ≤ _; omega
  have hu1 : ko_units ko + 1 = nI (U + 1) := by rw [hu, nI_1]
  have hm : (ko_units ko + 1) - 1 = nI U := by rw [hu1]; exact nI_pred _
  have e0 : r_Co_hasRoomForUnit n ko = some 1 := by unfold r_Co_hasRoomForUnit; rw [if_neg c1]
  unfold r_Co_appendUnit
  rw [e0]
  apply Exists.intro
  apply And.intro
  · rw [Option.bind_some, if_neg (show ¬ (1 : Int32) = 0 by decide)]
    refine (ga_eq hu hU (by decide)).trans ?_
    refine (ga_eq hu hU (by decide)).trans ?_
    refine (ga_eq hu hU (by decide)).trans ?_
    refine (ga_eq hu hU (by decide)).trans ?_
    exact congrArg some (Prod.ext hm rfl)
  · refine ⟨hu1, rfl, ?_, ?_, ?_, ?_, rfl, rfl, rfl, rfl⟩
    · show upd (ko_frames ko) (ko_units ko).toNatClampNeg a = _; rw [hcl]
    · show upd (ko_places ko) (ko_units ko).toNatClampNeg b = _; rw [hcl]
    · show upd (ko_firsts ko) (ko_units ko).toNatClampNeg (ko_length ko) = _; rw [hcl]
    · show upd (ko_sizes ko) (ko_units ko).toNatClampNeg 0 = _; rw [hcl]
theorem unit_ok {Good : T_mc → T_mq → Prop} {n : Nat} (hn : 5000 ≤ n) {ma : T_ma} {ko : T_ko} {sh : T_sh} {lo : T_lo} {de : T_de} {wa : T_wa} {me : T_me} {ru : T_ru} {mc : T_mc} {mq : T_mq} {mr : T_mr} (h : RelG Good ma ko sh lo de wa me ru mc mq mr) (a b : Int32) :
    ∃ (r : Int32) (ma' : T_ma) (ko' : T_ko) (me' : T_me) (ru' : T_ru) (mc' : T_mc) (mr' : T_mr), r_Sm_unit n ma ko me ru a b = some (r, ma', ko', me', ru') ∧ r_Mo_unit n mc mr a b = some (r, mc', mr') ∧ RelG Good ma' ko' sh lo de wa me' ru' mc' mq mr' := by
  obtain ⟨hc, hk, hr⟩ := id h
  have hku : ko_units ko = nI (nU mc) := hk.1.trans hc.1
  have bad : ∀ {c : Prop}, (c → r_Sm_unit n ma ko me ru a b = some (-1, ma, ko, me, ru) ∧ r_Mo_unit n mc mr a b = some (-1, mc, mr)) → c → ∃ (r : Int32) (ma' : T_ma) (ko' : T_ko) (me' : T_me) (ru' : T_ru) (mc' : T_mc) (mr' : T_mr), r_Sm_unit n ma ko me ru a b = some (r, ma', ko', me', ru') ∧ r_Mo_unit n mc mr a b = some (r, mc', mr') ∧ RelG Good ma' ko' sh lo de wa me' ru' mc' mq mr' := fun f x => ⟨_, _, _, _, _, _, _, (f x).1, (f x).2, h⟩
  have j23 : r_Sm_unit_j23 n ma ko me ru a b = some (-1, ma, ko, me, ru) := rfl
  by_cases full : nU mc = 16
  · have e16 : mc_units mc = 16 := by rw [hc.1, full]; rfl
    refine bad (c := True) (fun _ => ⟨?_, by unfold r_Mo_unit; rw [if_pos e16]⟩) trivial
    have j28 : r_Sm_unit_j28 n ma ko me ru a b 0 = some (-1, ma, ko, me, ru) := by
      have e0 : r_Co_hasRoomForUnit n ko = some 0 := by unfold r_Co_hasRoomForUnit; rw [if_pos (by rw [hk.1, e16]; decide)]
      unfold r_Sm_unit_j28; rw [if_pos rfl, e0]; rfl
    unfold r_Sm_unit
    rw [j23, j28]
    simp only [ite_self]
  have hU : nU mc < 16 := by have := hc.2.1; omega
  have e16 : ¬ mc_units mc = 16 := by rw [hc.1, i_eq, nI_t (by omega)]; show ¬ _ = (16 : Int); omega
  by_cases c2 : a < 0
  · exact bad (fun c2 => ⟨by unfold r_Sm_unit; rw [if_pos c2, j23], by unfold r_Mo_unit; rw [if_neg e16, if_pos c2]⟩) c2
  by_cases c3 : 4096 < a
  · exact bad (fun c3 => ⟨by unfold r_Sm_unit; rw [if_neg c2, if_pos c3, j23], by unfold r_Mo_unit; rw [if_neg e16, if_neg c2, if_pos c3]⟩) c3
  by_cases c4 : b < -1
  · exact bad (fun c4 => ⟨by unfold r_Sm_unit; rw [if_neg c2, if_neg c3, if_pos c4, j23], by unfold r_Mo_unit; rw [if_neg e16, if_neg c2, if_neg c3, if_pos c4]⟩) c4
  have k4 : (4095 : Int32).toInt = 4095 := by decide
  have k5 : (4096 : Int32).toInt = 4096 := by decide
  have k6 : (-1 : Int32).toInt = -1 := by decide
  have k7 : (0 : Int32).toInt = 0 := by decide
  by_cases c5 : b ≤ 4095
  · have c6 : b < 4096 := by rw [i_lt]; rw [i_le] at c5; omega
    obtain ⟨ma', me', ru', e1, t1, t2⟩ := halt_ok n hr
    obtain ⟨mr', e2, s2⟩ := stop_ok hn mr
    obtain ⟨mc', m0, m1, m2, m3, m4, m5, m6, m7, m8, m9, m10⟩ := unit_M hc e2 hU c2 c3 c4 c5
    obtain ⟨ko', x0, x1, x2, x3, x4, x5, x6, x7, x8, x9, x10⟩ := unit_X (n := n) hku hU (a := a) (b := b)
    have n1 : nU mc' = nU mc + 1 := by
      show (mc_units mc').toNatClampNeg = _
      rw [m2]; exact nI_clamp (by omega)
    have f1 : ∀ u, u ≤ nU mc → fi mc' u = fi mc u ∧ mc_firsts mc' u = mc_firsts mc u := fun u hu => by
      have key : mc_firsts mc' u = mc_firsts mc u := by
        rw [m6, upd_ne (by omega)]
        by_cases e : u = nU mc
        · rw [e, upd_at, hc.2.2.1, hc.2.2.2.2.2.2.1 _ (Nat.le_refl _)]; rfl
        · rw [upd_ne e]
      exact ⟨by unfold fi; rw [key], key⟩
    have f2 : mc_firsts mc' (nU mc + 1) = mc_total mc := by rw [m6, upd_at]
    have f3 : fi mc' (nU mc + 1) = nT mc := by unfold fi; rw [f2, hc.2.2.1]; exact nI_clamp (by have := hc.2.2.2.1; omega)
    have n2 : nT mc' = nT mc := by unfold nT; rw [n1, f3]; rfl
    refine ⟨nI (nU mc), ma', ko', me', ru', mc', mr', ?_, m0, ?_, ?_, run0 (by rw [t1, hr.1, m1]) t2 s2⟩
    · unfold r_Sm_unit
      rw [if_neg c2, if_neg c3, if_neg c4, if_pos c6]
      have e0 : r_Co_hasRoomForUnit n ko = some 1 := by
        unfold r_Co_hasRoomForUnit; rw [if_neg (by rw [hku, i_le, nI_t (by omega)]; show ¬ (16 : Int) ≤ _; omega)]
      unfold r_Sm_unit_j28
      rw [if_pos rfl, e0]
      rw [Option.bind_some, if_neg (show ¬ (1 : Int32) = 0 by decide)]
      rw [e1]
      show (r_Co_appendUnit n ko a b).bind _ = _
      rw [x0]; rfl
    · refine ⟨by rw [m2, n1], by omega, by rw [m3, n2]; exact hc.2.2.1, by rw [n2]; exact hc.2.2.2.1, by rw [(f1 0 (Nat.zero_le _)).1]; exact hc.2.2.2.2.1, fun u hu => ?_, fun u hu => ?_, fun u hu => ?_, by rw [m1]; exact hc.2.2.2.2.2.2.2.2.1, by rw [m1]; exact hc.2.2.2.2.2.2.2.2.2⟩
      · rw [n1] at hu
        by_cases e : u = nU mc
        · rw [e, f3, (f1 _ (Nat.le_refl _)).1]; exact Nat.le_refl _
        · rw [(f1 u (by omega)).1, (f1 (u + 1) (by omega)).1]; exact hc.2.2.2.2.2.1 u (by omega)
      · rw [n1] at hu
        by_cases e : u = nU mc + 1
        · rw [e, f2, f3]; exact hc.2.2.1
        · rw [(f1 u (by omega)).1, (f1 u (by omega)).2]; exact hc.2.2.2.2.2.2.1 u (by omega)
      · rw [n1] at hu
        rw [m4, m5]
        by_cases e : u = nU mc
        · rw [e, upd_at, upd_at]
          rw [i_lt] at c2 c3 c4; rw [i_le] at c5
          omega
        · rw [upd_ne e, upd_ne e]; exact hc.2.2.2.2.2.2.2.1 u (by omega)
    · refine ⟨by rw [x1, m2], by rw [x2, m3]; exact hk.2.1, fun u hu => ?_, fun j hj => ?_⟩
      · rw [n1] at hu
        rw [x3, x4, x5, x6, m4, m5]
        by_cases e : u = nU mc
        · rw [e, upd_at, upd_at, upd_at, upd_at, upd_at, upd_at, f3, (f1 _ (Nat.le_refl _)).1, (f1 _ (Nat.le_refl _)).2]
          refine ⟨rfl, rfl, ?_, ?_⟩
          · rw [hk.2.1, hc.2.2.1, hc.2.2.2.2.2.2.1 _ (Nat.le_refl _)]; rfl
          · show (0 : Int32) = nI (nT mc - nT mc); rw [Nat.sub_self]; rfl
        · rw [upd_ne e, upd_ne e, upd_ne e, upd_ne e, upd_ne e, upd_ne e, (f1 u (by omega)).1, (f1 (u + 1) (by omega)).1, (f1 u (by omega)).2]
          exact hk.2.2.1 u (by omega)
      · rw [n2] at hj
        rw [x7, x8, x9, x10, m7, m8, m9, m10]; exact hk.2.2.2 j hj
  · have c6 : ¬ b < 4096 := by rw [i_lt]; rw [i_le] at c5; omega
    exact bad (c := True) (fun _ => ⟨by unfold r_Sm_unit; rw [if_neg c2, if_neg c3, if_neg c4, if_neg c6, j23], by unfold r_Mo_unit; rw [if_neg e16, if_neg c2, if_neg c3, if_neg c4, if_neg c5]⟩) trivial
theorem add_M {n : Nat} {mc : T_mc} {mr mr' : T_mr} (hc : CodeOK mc) (hs : r_Mo_stop n mr = some mr') (hU : 0 < nU mc) (hT : nT mc < 256) {a b c d : Int32} :
    ∃ mc', r_Mo_add n mc mr a b c d = some (nI (nT mc - fi mc (nU mc - 1)), mc', mr') ∧ mc_size mc' = mc_size mc ∧ mc_units mc' = mc_units mc ∧ mc_total mc' = nI (nT mc + 1) ∧ mc_frames mc' = mc_frames mc ∧ mc_places mc' = mc_places mc ∧ mc_firsts mc' = upd (mc_firsts mc) (nU mc) (nI (nT mc + 1)) ∧ mc_numbers mc' = upd (mc_numbers mc) (nT mc) a ∧ mc_as_ mc' = upd (mc_as_ mc) (nT mc) b ∧ mc_bs mc' = upd (mc_bs mc) (nT mc) c ∧ mc_cs mc' = upd (mc_cs mc) (nT mc) d := by
  have hu := hc.1
  have ht := hc.2.2.1
  have h16 := hc.2.1
  have hcl : (mc_total mc).toNatClampNeg = nT mc := by rw [ht]; exact nI_clamp (by omega)
  have c1 : ¬ mc_units mc = 0 := by rw [hu, i_eq, nI_t (by omega)]; show ¬ _ = (0 : Int); omega
  have c2 : ¬ mc_total mc = 256 := by rw [ht, i_eq, nI_t (by omega)]; show ¬ _ = (256 : Int); omega
  have ht1 : mc_total mc + 1 = nI (nT mc + 1) := by rw [ht, nI_1]
  have hu1 : mc_units mc - 1 = nI (nU mc - 1) := by rw [hu, show (1 : Int32) = nI 1 from rfl, pk_sub (by omega)]
  have hf := hc.2.2.2.2.2.2.1 (nU mc - 1) (by omega)
  have hle : fi mc (nU mc - 1) ≤ nT mc := fi_mono hc (by omega) (Nat.le_refl _)
  unfold r_Mo_add
  rw [if_neg c1, if_neg c2, hs]
  apply Exists.intro
  apply And.intro
  · refine (ga_eq ht hT (by decide)).trans ?_
    refine (ga_eq ht hT (by decide)).trans ?_
    refine (ga_eq ht hT (by decide)).trans ?_
    refine (ga_eq ht hT (by decide)).trans ?_
    refine (ga_eq hu (show nU mc < 17 by omega) (by decide)).trans ?_
    refine (gr_eq hu1 (show nU mc - 1 < 17 by omega) (by decide)).trans ?_
    refine congrArg some (Prod.ext ?_ (Prod.ext rfl rfl))
    show (mc_total mc + 1 - 1) - upd (mc_firsts mc) (nU mc) (mc_total mc + 1) (nU mc - 1) = _
    rw [upd_ne (by omega), hf, ht1, nI_pred, pk_sub hle]
  · refine ⟨rfl, rfl, ht1, rfl, rfl, ?_, ?_, ?_, ?_, ?_⟩
    · show upd (mc_firsts mc) (nU mc) (mc_total mc + 1) = _; rw [ht1]
    · show upd (mc_numbers mc) (mc_total mc).toNatClampNeg a = _; rw [hcl]
    · show upd (mc_as_ mc) (mc_total mc).toNatClampNeg b = _; rw [hcl]
    · show upd (mc_bs mc) (mc_total mc).toNatClampNeg c = _; rw [hcl]
    · show upd (mc_cs mc) (mc_total mc).toNatClampNeg d = _; rw [hcl]
theorem add_X {n : Nat} {ko : T_ko} {U T S : Nat} (hu : ko_units ko = nI U) (hU0 : 0 < U) (hU : U ≤ 16) (ht : ko_length ko = nI T) (hT : T < 256) (hS : ko_sizes ko (U - 1) = nI S) {a b c d : Int32} :
    ∃ ko', r_Co_appendInstruction n ko a b c d = some (nI S, ko') ∧ ko_units ko' = ko_units ko ∧ ko_length ko' = nI (T + 1) ∧ ko_frames ko' = ko_frames ko ∧ ko_places ko' = ko_places ko ∧ ko_firsts ko' = ko_firsts ko ∧ ko_sizes ko' = upd (ko_sizes ko) (U - 1) (nI (S + 1)) ∧ ko_numbers ko' = upd (ko_numbers ko) T a ∧ ko_as_ ko' = upd (ko_as_ ko) T b ∧ ko_bs ko' = upd (ko_bs ko) T c ∧ ko_cs ko' = upd (ko_cs ko) T d := by
  have hcl : (ko_length ko).toNatClampNeg = T := by rw [ht]; exact nI_clamp (by omega)
  have ht1 : ko_length ko + 1 = nI (T + 1) := by rw [ht, nI_1]
  have hu1 : ko_units ko - 1 = nI (U - 1) := by rw [hu, show (1 : Int32) = nI 1 from rfl, pk_sub (by omega)]
  have hcl1 : (ko_units ko - 1).toNatClampNeg = U - 1 := by rw [hu1]; exact nI_clamp (by omega)
  have e0 : r_Co_hasRoomForInstruction n ko = some 1 := by
    unfold r_Co_hasRoomForInstruction
    rw [if_neg (by rw [hu, i_le, nI_t (by omega)]; show ¬ _ ≤ (0 : Int); omega), if_neg (by rw [hu, i_lt, nI_t (by omega)]; show ¬ (16 : Int) < _; omega), if_neg (by rw [ht, i_le, nI_t (by omega)]; show ¬ (256 : Int) ≤ _; omega)]
  unfold r_Co_appendInstruction
  rw [e0]
  apply Exists.intro
  apply And.intro
  · rw [Option.bind_some, if_neg (show ¬ (1 : Int32) = 0 by decide)]
    refine (ga_eq ht hT (by decide)).trans ?_
    refine (ga_eq ht hT (by decide)).trans ?_
    refine (ga_eq ht hT (by decide)).trans ?_
    refine (ga_eq ht hT (by decide)).trans ?_
    refine (gr_eq hu1 (show U - 1 < 16 by omega) (by decide)).trans ?_
    refine (ga_eq hu1 (show U - 1 < 16 by omega) (by decide)).trans ?_
    refine (gr_eq hu1 (show U - 1 < 16 by omega) (by decide)).trans ?_
    refine congrArg some (Prod.ext ?_ rfl)
    show upd (ko_sizes ko) (ko_units ko - 1).toNatClampNeg (ko_sizes ko (U - 1) + 1) (U - 1) - 1 = _
    rw [hcl1, upd_at, hS, nI_1, nI_pred]
  · refine ⟨rfl, ht1, rfl, rfl, rfl, ?_, ?_, ?_, ?_, ?_⟩
    · show upd (ko_sizes ko) (ko_units ko - 1).toNatClampNeg (ko_sizes ko (U - 1) + 1) = _; rw [hcl1, hS, nI_1]
    · show upd (ko_numbers ko) (ko_length ko).toNatClampNeg a = _; rw [hcl]
    · show upd (ko_as_ ko) (ko_length ko).toNatClampNeg b = _; rw [hcl]
    · show upd (ko_bs ko) (ko_length ko).toNatClampNeg c = _; rw [hcl]
    · show upd (ko_cs ko) (ko_length ko).toNatClampNeg d = _; rw [hcl]
theorem add_ok {Good : T_mc → T_mq → Prop} {n : Nat} (hn : 5000 ≤ n) {ma : T_ma} {ko : T_ko} {sh : T_sh} {lo : T_lo} {de : T_de} {wa : T_wa} {me : T_me} {ru : T_ru} {mc : T_mc} {mq : T_mq} {mr : T_mr} (h : RelG Good ma ko sh lo de wa me ru mc mq mr) (a b c d : Int32) :
    ∃ (r : Int32) (ma' : T_ma) (ko' : T_ko) (me' : T_me) (ru' : T_ru) (mc' : T_mc) (mr' : T_mr), r_Sm_add n ma ko me ru a b c d = some (r, ma', ko', me', ru') ∧ r_Mo_add n mc mr a b c d = some (r, mc', mr') ∧ RelG Good ma' ko' sh lo de wa me' ru' mc' mq mr' := by
  obtain ⟨hc, hk, hr⟩ := id h
  have hku : ko_units ko = nI (nU mc) := hk.1.trans hc.1
  have hkl : ko_length ko = nI (nT mc) := hk.2.1.trans hc.2.2.1
  have h16 := hc.2.1
  have h256 := hc.2.2.2.1
  by_cases z : nU mc = 0
  · have e : mc_units mc = 0 := by rw [hc.1, z]; rfl
    refine ⟨-1, ma, ko, me, ru, mc, mr, ?_, by unfold r_Mo_add; rw [if_pos e], h⟩
    have e0 : r_Co_hasRoomForInstruction n ko = some 0 := by unfold r_Co_hasRoomForInstruction; rw [if_pos (by rw [hk.1, e]; decide)]
    unfold r_Sm_add; rw [e0]; rfl
  have e1 : ¬ mc_units mc = 0 := by rw [hc.1, i_eq, nI_t (by omega)]; show ¬ _ = (0 : Int); omega
  have u1 : ¬ ko_units ko ≤ 0 := by rw [hku, i_le, nI_t (by omega)]; show ¬ _ ≤ (0 : Int); omega
  have u2 : ¬ (16 : Int32) < ko_units ko := by rw [hku, i_lt, nI_t (by omega)]; show ¬ (16 : Int) < _; omega
  by_cases full : nT mc = 256
  · have e : mc_total mc = 256 := by rw [hc.2.2.1, full]; rfl
    refine ⟨-1, ma, ko, me, ru, mc, mr, ?_, by unfold r_Mo_add; rw [if_neg e1, if_pos e], h⟩
    have e0 : r_Co_hasRoomForInstruction n ko = some 0 := by unfold r_Co_hasRoomForInstruction; rw [if_neg u1, if_neg u2, if_pos (by rw [hk.2.1, e]; decide)]
    unfold r_Sm_add; rw [e0]; rfl
  have u3 : ¬ (256 : Int32) ≤ ko_length ko := by rw [hkl, i_le, nI_t (by omega)]; show ¬ (256 : Int) ≤ _; omega
  obtain ⟨ma', me', ru', q1, t1, t2⟩ := halt_ok n hr
  obtain ⟨mr', q2, s2⟩ := stop_ok hn mr
  have hz : ko_sizes ko (nU mc - 1) = nI (nT mc - fi mc (nU mc - 1)) := by
    rw [(hk.2.2.1 (nU mc - 1) (by omega)).2.2.2, show nU mc - 1 + 1 = nU mc by omega]; rfl
  have hle : fi mc (nU mc - 1) ≤ nT mc := fi_mono hc (by omega) (Nat.le_refl _)
  obtain ⟨mc', m0, m1, m2, m3, m4, m5, m6, m7, m8, m9, m10⟩ := add_M hc q2 (by omega) (by omega) (a := a) (b := b) (c := c) (d := d)
  obtain ⟨ko', x0, x1, x2, x3, x4, x5, x6, x7, x8, x9, x10⟩ := add_X (n := n) hku (by omega) h16 hkl (by omega) hz (a := a) (b := b) (c := c) (d := d)
  have n1 : nU mc' = nU mc := by show (mc_units mc').toNatClampNeg = _; rw [m2]; rfl
  have f1 : ∀ u, u < nU mc → fi mc' u = fi mc u ∧ mc_firsts mc' u = mc_firsts mc u := fun u hu => by
    have key : mc_firsts mc' u = mc_firsts mc u := by rw [m6, upd_ne (by omega)]
    exact ⟨by unfold fi; rw [key], key⟩
  have f2 : mc_firsts mc' (nU mc) = nI (nT mc + 1) := by rw [m6, upd_at]
  have f3 : fi mc' (nU mc) = nT mc + 1 := by unfold fi; rw [f2]; exact nI_clamp (by omega)
  have n2 : nT mc' = nT mc + 1 := by show fi mc' (nU mc') = _; rw [n1, f3]
  refine ⟨nI (nT mc - fi mc (nU mc - 1)), ma', ko', me', ru', mc', mr', ?_, m0, ?_, ?_, run0 (by rw [t1, hr.1, m1]) t2 s2⟩
  · have e0 : r_Co_hasRoomForInstruction n ko = some 1 := by unfold r_Co_hasRoomForInstruction; rw [if_neg u1, if_neg u2, if_neg u3]
    unfold r_Sm_add
    rw [e0, Option.bind_some, if_neg (show ¬ (1 : Int32) = 0 by decide), q1, Option.bind_some, x0]; rfl
  · refine ⟨by rw [m2, n1]; exact hc.1, by omega, by rw [m3, n2], by omega, by rw [(f1 0 (by omega)).1]; exact hc.2.2.2.2.1, fun u hu => ?_, fun u hu => ?_, fun u hu => ?_, by rw [m1]; exact hc.2.2.2.2.2.2.2.2.1, by rw [m1]; exact hc.2.2.2.2.2.2.2.2.2⟩
    · rw [n1] at hu
      have k1 := hc.2.2.2.2.2.1 u hu
      by_cases e : u + 1 = nU mc
      · rw [e, f3, (f1 u hu).1]; have : fi mc (u + 1) = nT mc := by rw [e]; rfl
        omega
      · rw [(f1 u hu).1, (f1 (u + 1) (by omega)).1]; exact k1
    · rw [n1] at hu
      by_cases e : u = nU mc
      · rw [e, f2, f3]
      · rw [(f1 u (by omega)).1, (f1 u (by omega)).2]; exact hc.2.2.2.2.2.2.1 u (by omega)
    · rw [n1] at hu; rw [m4, m5]; exact hc.2.2.2.2.2.2.2.1 u hu
  · refine ⟨by rw [x1, m2]; exact hk.1, by rw [x2, m3], fun u hu => ?_, fun j hj => ?_⟩
    · rw [n1] at hu
      rw [x3, x4, x5, x6, m4, m5, (f1 u hu).1, (f1 u hu).2]
      have k := hk.2.2.1 u hu
      refine ⟨k.1, k.2.1, k.2.2.1, ?_⟩
      by_cases e : u = nU mc - 1
      · rw [e, upd_at, show nU mc - 1 + 1 = nU mc by omega, f3]
        congr 1; omega
      · rw [upd_ne e, (f1 (u + 1) (by omega)).1]; exact k.2.2.2
    · rw [n2] at hj
      rw [x7, x8, x9, x10, m7, m8, m9, m10]
      by_cases e : j = nT mc
      · rw [e, upd_at, upd_at, upd_at, upd_at, upd_at, upd_at, upd_at, upd_at]; exact ⟨rfl, rfl, rfl, rfl⟩
      · rw [upd_ne e, upd_ne e, upd_ne e, upd_ne e, upd_ne e, upd_ne e, upd_ne e, upd_ne e]; exact hk.2.2.2 j (by omega)
theorem init_ok {Good : T_mc → T_mq → Prop} {n : Nat} (hn : 5000 ≤ n) : ∃ (r : Int32) (mc' : T_mc) (mr' : T_mr), r_Mo_begin n mc0 mr0 (64 : Int32) = some (r, mc', mr') ∧ RelG Good ma0 ko0 sh0 lo0 de0 wa0 me0 ru0 mc' mq0 mr' := by
  obtain ⟨mr', e2, s2⟩ := stop_ok hn mr0
  unfold r_Mo_begin
  rw [if_neg (by decide), if_pos (by decide), e2]
  refine ⟨_, _, _, rfl, ⟨rfl, (show (0 : Nat) ≤ 16 by decide), rfl, (show (0 : Nat) ≤ 256 by decide), rfl, fun u hu => absurd hu (Nat.not_lt_zero u), fun u hu => ?_, fun u hu => absurd hu (Nat.not_lt_zero u), (show (1 : Int) ≤ (64 : Int32).toInt by decide), (show (64 : Int32).toInt ≤ 4096 by decide)⟩, ⟨rfl, rfl, fun u hu => absurd hu (Nat.not_lt_zero u), fun j hj => absurd hj (Nat.not_lt_zero j)⟩, run0 rfl ⟨rfl, rfl, rfl, rfl, rfl, rfl, rfl, fun _ _ => rfl⟩ s2⟩
  have : u = 0 := Nat.le_zero.mp hu
  subst this; rfl
