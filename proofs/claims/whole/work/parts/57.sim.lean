/-! a scan: every unit runs alike on both sides, and within its steps -/
theorem PlOK_of {mc : T_mc} (hc : CodeOK mc) {st : Nat → Int} (hG : ∀ v, v < nU mc → UnitOK mc v st) {u : Nat} (hu : u ≤ nU mc) : PlOK mc u := fun v hv h0 => by
  have b := (hG v (by omega)).1
  have c := hc.2.2.2.2.2.2.2.1 v (by omega)
  have c1 : 0 ≤ frm mc v := c.1
  have c2 : plc mc v < 4096 := c.2.2.2
  have s := hc.2.2.2.2.2.2.2.2
  by_cases z : frm mc v = 0
  · omega
  · by_cases w : (mc_size mc).toInt < plc mc v + frm mc v
    · exact absurd (Or.inr ⟨h0, z, Or.inl w⟩) b
    · omega
/-- a unit at its own place -/
theorem FrOK_pl {mc : T_mc} (hc : CodeOK mc) {st : Nat → Int} (hG : ∀ v, v < nU mc → UnitOK mc v st) {a : Nat} (ha : a < nU mc) (h0 : 0 ≤ plc mc a) : FrOK mc a (plc mc a).toNat := by
  have b := (hG a ha).1
  have p := PlOK_of hc hG (show a + 1 ≤ nU mc by omega) a (by omega) h0
  refine ⟨Or.inr (by omega), fun v hv hv0 c c1 c2 c3 => b (Or.inr ⟨h0, by omega, Or.inr ⟨v, Nat.zero_le _, hv, hv0, by omega, by omega, by omega⟩⟩)⟩
section sim
variable {n : Nat} {ko : T_ko} {mc : T_mc} {st : Nat → Int}
def UnitR (n : Nat) (ko : T_ko) (mc : T_mc) (st : Nat → Int) (u : Nat) : Prop :=
  ∀ (m bs D0 sA q f f' tx : Nat) (me : T_me) (ru : T_ru) (mr : T_mr), m + u < 16 → FrOK mc u bs → RS m u bs 0 sA ru mr → ru_fault ru = 0 → MS D0 me mr → D0 ≤ 64 * m → (q : Int) = st u → 2 * q + 1 < f → 2 * q + 2 < f' → tx + 2 * q ≤ 40000 → ResR n ko mc u m bs D0 sA q f f' tx me ru mr
theorem pos_run (hc : CodeOK mc) (hk : KoRel ko mc) (hG : ∀ v, v < nU mc → UnitOK mc v st) {u : Nat} (hu : u < nU mc) (ih : ∀ a, a < u → UnitR n ko mc st a)
    {rd stT r : Nat → Int} {dF' : Nat → Int32} (hrd : ∀ i, -1 ≤ rd i) (hst : ∀ i, -1 ≤ stT i) (hsq : ∀ a, a < u → stT a = st a) (hr : wInv mc u rd stT 0 (sz mc u) (sz mc u) r) (hA : rdOK mc u stT rd 0) (hrS : r (sz mc u) = st u)
    (hV : dVR (sz mc u) dF') (hD : ∀ i, i < sz mc u → 0 ≤ (dF' i).toInt → ChkD mc u dF' i)
    {m bs D0 : Nat} (hm : m + u < 16) (hF : FrOK mc u bs) (hD0 : D0 ≤ 64 * m) :
    ∀ (q i w d sA f f' tx : Nat) (me : T_me) (ru : T_ru) (mr : T_mr), (w : Int) + q = st u → PosOK mc u bs rd r i w (mr_cells mr) → (i < sz mc u → 0 ≤ (dF' i).toInt ∧ (d : Int) = D0 + (dF' i).toInt) → (i = sz mc u → d = D0) → RS m u bs i sA ru mr → ru_fault ru = 0 → MS d me mr → 2 * q + 1 < f → 2 * q + 2 < f' → tx + 2 * q ≤ 40000 →
    ResR n ko mc u m bs D0 sA q f f' tx me ru mr := by
  obtain ⟨g1, hl, ho, g4, g5, g6, -⟩ := hG u hu
  have hS : r (sz mc u) ≤ 1000000000 := by omega
  have hP := PlOK_of hc hG (show u ≤ nU mc by omega)
  have h16 := hc.2.1
  have hf0 := fi_le hc hu
  have h256 := hc.2.2.2.1
  have hm20 : m < 20 := by omega
  intro q
  induction q using Nat.strongRecOn with
  | ind q IH =>
    intro i w d sA f f' tx me ru mr hwq hp hdi hdS hR hfl hM hf hf' htx
    have hiS := hp.1
    by_cases ei : i = sz mc u
    · -- the end
      subst ei
      have ed := hdS rfl
      subst ed
      match f', hf' with
      | f' + 1, hf' =>
        refine Or.inr ⟨0, f, f', tx, me, ru, mr, Nat.zero_le _, rfl, run_end hc hu hm20 hR, by omega, by omega, by omega, ?_, hfl, hM, Kp_r _ _, fun j hj => absurd rfl hj⟩
        obtain ⟨a1, a2, a3, a4, a5, a6, a7, a8, a9, a10, a11⟩ := hR
        exact ⟨a1, a2, a3, a4, a5, a7, a11⟩
    · have hi : i < sz mc u := by omega
      obtain ⟨hd0, hdd⟩ := hdi hi
      have hd64 : (dF' i).toInt ≤ 64 := by
        rcases hV i hi with z | z
        · rw [z] at hd0; exact absurd hd0 (by decide)
        · exact z.2
      have hCh := hD i hi hd0
      have hdB := dB_rg hl hi ⟨hd0, hd64⟩
      have nr := nu_rg hl hi
      have tr := tk_rg (uN mc u i).toNat (by omega)
      match f, f', hf, hf' with
      | f + 1, f' + 1, hf, hf' =>
      have hT := ru_turn (n := n) (f := f) (me := me) hc hk hu hi (show tx ≤ 40001 by omega) hfl hR
      have hT' := mo_turn (n := n) (f' := f') hc hu hi hm20 hR
      have uq : ∀ (x : Int32), mc_numbers mc (fi mc u + i) = x ↔ uN mc u i = x.toInt := fun x => by rw [i_eq]; rfl
      by_cases c18 : uN mc u i = 18
      · -- LEAVE
        have e18 : mc_numbers mc (fi mc u + i) = 18 := by rw [uq, k18]; exact c18
        have hx : ((sz mc u : Int), 1) ∈ xE mc u rd stT i := by
          unfold xE; rw [if_neg (by omega), if_neg (by omega), if_neg (by omega), if_neg (by omega), if_neg (by omega), if_pos c18]; exact List.mem_cons_self
        have hp2 := pot_edge (bs := bs) (f' := mr_cells mr) (s' := (w : Int) + 1) (t := sz mc u) hl ho hrd hst hr hS hp hi (by omega) hx rfl (by dsimp only; omega) (by omega) (fun _ _ _ => rfl)
        have ple := pot_le13 (bs := bs) hl ho hrd hst hr hS hA hp2
        have sd := hCh.2.2.2 (sz mc u) (by unfold uT; rw [if_neg (by omega), if_neg (by omega), if_pos c18])
        have d0 : (dB mc u i (dF' i)).toInt = 0 := by
          rcases sd with z | z
          · rw [z.2]; decide
          · omega
        have tk18 : (tkn (uN mc u i).toNat).toInt = 0 ∧ (lft (uN mc u i).toNat).toInt = 0 := by rw [c18]; decide
        have ed : d = D0 := by omega
        subst ed
        rw [step_eq hc hk hu hi hR, e18, if_pos (by decide), if_pos (by decide), if_neg (by decide)] at hT
        unfold r_Ru_go at hT
        rw [if_neg (by decide), if_neg (by decide), if_neg (by decide), if_neg (by decide), if_neg (by decide), if_neg (by decide), if_neg (by decide), if_pos rfl, show ru_unit (ru1 ru i sA) = nI u from hR.2.2.2.2.1, co_size hc hk hu, Option.bind_some, Option.bind_some, Option.bind_some] at hT
        rw [e18, if_neg (by decide), if_neg (by decide), if_pos rfl] at hT'
        obtain ⟨a1, a2, a3, a4, a5, a6, a7, a8, a9, a10, a11⟩ := RS_1 hR
        exact Or.inr ⟨1, f, f', tx + 1, me, ru_next_s (ru1 ru i sA) (nI (sz mc u)), mr1 mr m i sA, by omega, hT, hT', by omega, by omega, by omega, ⟨a1, a2, a3, a4, a5, rfl, a11⟩, hfl, MS_1 hM, Kp_1 _ _ _ _, fun j hj => absurd rfl hj⟩
      by_cases cl : uN mc u i = 15 ∨ uN mc u i = 16
      · -- a unit begins
        have ca := call_rg hl hi cl
        have hp256 : fi mc u + i < 256 := by omega
        obtain ⟨a, ea, eA⟩ : ∃ a : Nat, (a : Int) = uA mc u i ∧ mc_as_ mc (fi mc u + i) = nI a := ⟨(uA mc u i).toNat, by omega, i_nat ca.1⟩
        have hau : a < u := by omega
        have cR := cell_rg hl hi
        have sa0 : 0 ≤ st a := (hG a (by omega)).2.2.2.2.1
        obtain ⟨qa, eqa⟩ : ∃ qa : Nat, (qa : Int) = st a := ⟨(st a).toNat, by omega⟩
        have hx : ((i : Int) + 1, 1 + stT (uA mc u i).toNat) ∈ xE mc u rd stT i := by
          unfold xE; rw [if_neg (by omega), if_neg (by omega), if_neg (by omega), if_neg (by omega), if_pos cl]; exact List.mem_cons_self
        have ex2 : stT (uA mc u i).toNat = st a := by rw [show (uA mc u i).toNat = a by omega]; exact hsq a hau
        have t13 : ¬ (i + 1 < sz mc u ∧ uN mc u (i + 1) = 13) := fun z => by
          have := no13 ho z; rw [Nat.add_sub_cancel] at this; omega
        have hpM := pot_edge (bs := bs) (f' := mr_cells mr) (s' := (w : Int) + 1 + st a) (t := i + 1) hl ho hrd hst hr hS hp hi (by omega) hx (by dsimp only; omega) (by dsimp only; omega) t13 (fun _ _ _ => rfl)
        have pleM := pot_le13 (bs := bs) hl ho hrd hst hr hS hA hpM
        have tk0 : (tkn (uN mc u i).toNat).toInt = 0 ∧ (lft (uN mc u i).toNat).toInt = 0 := by rcases cl with z | z <;> (rw [z]; decide)
        have sd := hCh.2.2.1 (show gOn (uN mc u i) from ⟨by omega, by omega, by omega⟩)
        -- where the unit lies
        have place : ∃ b : Nat, ((mc_numbers mc (fi mc u + i) = 15 ∧ nI bs + mc_bs mc (fi mc u + i) = nI b) ∨ (mc_numbers mc (fi mc u + i) = 16 ∧ mc_places mc a = nI b)) ∧ FrOK mc a b ∧ (∀ j, InW mc a b j → InW mc u bs j) ∧ ∀ k, k < sz mc u → uN mc u k = 13 → ¬ InW mc a b (bs + (uA mc u k).toNat) := by
          rcases cl with z | z
          · rw [z] at cR
            have cB : 0 ≤ uB mc u i := by have h := cR.1; unfold bad4 at h; omega
            have cF : frm mc a = 0 ∨ uB mc u i + frm mc a ≤ frm mc u := by
              have h := cR.1; unfold bad4 nCl fCl own at h; simp (config := {decide := true}) only [if_true, if_false, true_and, false_and, false_or] at h
              rw [show (uA mc u i).toNat = a by omega] at h; omega
            have nc : ∀ k, k < sz mc u → uN mc u k = 12 ∨ uN mc u k = 13 → ¬ (uB mc u i ≤ uA mc u k ∧ uA mc u k < uB mc u i + frm mc a) := fun k hk' e' y => by
              refine cR.2.1 ⟨by decide, by decide, k, ?_, e', ?_⟩
              · unfold own; rw [if_neg (by decide)]; exact hk'
              · unfold own nCl fCl; simp (config := {decide := true}) only [if_true, if_false]; rw [show (uA mc u i).toNat = a by omega]; exact y
            have hfa : 0 ≤ frm mc a := (hc.2.2.2.2.2.2.2.1 a (by omega)).1
            have hFu := hF.1
            refine ⟨bs + (uB mc u i).toNat, Or.inl ⟨by rw [uq, k15]; exact z, ad_nI cB⟩, ⟨by omega, fun v hv hv0 c c1 c2 => hF.2 v (by omega) hv0 c (by omega) (by omega)⟩, fun j hj => ?_, fun k hk' e' y => ?_⟩
            · rcases hj with hj | ⟨v, v1, v2⟩
              · exact Or.inl (by omega)
              · exact Or.inr ⟨v, by omega, v2⟩
            · have cr := ctr_rg hl hk' (Or.inr e')
              rcases y with y | ⟨v, v1, v2, v3, v4⟩
              · exact nc k hk' (Or.inr e') (by omega)
              · exact hF.2 v (by omega) v2 ((bs + (uA mc u k).toNat : Nat) : Int) (by omega) (by omega) ⟨v3, v4⟩
          · rw [z] at cR
            have c0 : 0 ≤ plc mc a := by have h := cR.2.2.2; unfold bad3 at h; rw [show (uA mc u i).toNat = a by omega] at h; omega
            refine ⟨(plc mc a).toNat, Or.inr ⟨by rw [uq, k16]; exact z, i_nat c0⟩, FrOK_pl hc hG (by omega) c0, fun j hj => ?_, fun k hk' e' y => ?_⟩
            · rcases hj with hj | ⟨v, v1, v2⟩
              · exact Or.inr ⟨a, hau, c0, by omega, by omega⟩
              · exact Or.inr ⟨v, by omega, v2⟩
            · have cr := ctr_rg hl hk' (Or.inr e')
              rcases y with y | ⟨v, v1, v2, v3, v4⟩
              · exact hF.2 a hau c0 ((bs + (uA mc u k).toNat : Nat) : Int) (by omega) (by omega) ⟨by omega, by omega⟩
              · exact hF.2 v (by omega) v2 ((bs + (uA mc u k).toNat : Nat) : Int) (by omega) (by omega) ⟨v3, v4⟩
        obtain ⟨b, pb, pF, pW, pN⟩ := place
        have hR1 := RS_1 hR
        obtain ⟨ru2, y1, y2, y3⟩ := descend_ok (n := n) (a := a) (b := b) (show m < 16 by omega) hR1
        generalize hmr2 : (mr_nextOf_s (mr_baseOf_s (mr_unitOf_s (mr1 mr m i sA) (upd (mr_unitOf (mr1 mr m i sA)) (m + 1) (nI a))) (upd (mr_baseOf (mr1 mr m i sA)) (m + 1) (nI b))) (upd (mr_nextOf (mr1 mr m i sA)) (m + 1) 0)) = mr2 at y3
        have hB : r_Mo_scan_l99 n mc (f' + 1) mr (nI m) 0 = r_Mo_scan_l99 n mc f' mr2 (nI (m + 1)) 0 := by
          have key := mo_begin_unit (n := n) (mc := mc) (k99 := r_Mo_scan_l99 n mc f') (a := a) (b := b) (show m < 18 by omega) hp256 hR1 eA (by omega) (by
            rcases pb with z | z
            · exact Or.inl z
            · exact Or.inr ⟨by rw [z.1]; decide, z.2⟩)
          rw [hT']
          rcases pb with z | z
          · rw [if_pos z.1, key, hmr2]
          · rw [if_neg (by rw [z.1]; decide), if_pos z.1, key, hmr2]
        have hX : r_Ru_run_l52 n ko (f + 1) me ru (nI tx) = r_Ru_run_l52 n ko f me ru2 (nI (tx + 1)) := by
          rw [hT, step_eq hc hk hu hi hR]
          unfold r_Ru_go
          rcases pb with z | z
          · rw [z.1, if_pos (by decide), if_pos (by decide), if_neg (by decide), if_neg (by decide), if_neg (by decide), if_neg (by decide), if_neg (by decide), if_neg (by decide), if_pos rfl, show ru_base (ru1 ru i sA) = nI bs from hR.2.2.2.2.2.2.2.2.1, z.2, eA, y1]; rfl
          · rw [z.1, if_pos (by decide), if_pos (by decide), if_neg (by decide), if_neg (by decide), if_neg (by decide), if_neg (by decide), if_neg (by decide), if_neg (by decide), if_neg (by decide), if_pos rfl, eA, co_place hc hk (by omega), Option.bind_some, z.2, y1]; rfl
        have kq : Kp (m + 1) (mr1 mr m i sA) mr2 := by
          rw [← hmr2]
          refine ⟨rfl, rfl, rfl, rfl, fun j hj => ⟨?_, ?_, ?_⟩⟩
          · show upd (mr_unitOf (mr1 mr m i sA)) (m + 1) _ j = _; rw [upd_ne (by omega)]
          · show upd (mr_nextOf (mr1 mr m i sA)) (m + 1) _ j = _; rw [upd_ne (by omega)]
          · show upd (mr_baseOf (mr1 mr m i sA)) (m + 1) _ j = _; rw [upd_ne (by omega)]
        have hM2 : MS d me mr2 := by rw [← hmr2]; exact hM
        have cel2 : mr_cells mr2 = mr_cells mr := by rw [← hmr2]; rfl
        have res := ih a hau (m + 1) b d (sA + 1) qa f f' (tx + 1) me ru2 mr2 (by omega) pF y3 (y2.trans hfl) hM2 (by omega) eqa (by omega) (by omega) (by omega)
        rcases res with ⟨e, me', ru', mr', r1, r2, r3, r4, r5⟩ | ⟨w2, f1, f1', tx1, me', ru', mr', r1, r2, r3, r4, r5, r6, r7, r8, r9, r10, r11⟩
        · exact Or.inl ⟨e, me', ru', mr', hX.trans r1, hB.trans r2, r3, r4, Kp_0 (Kp_1 mr m i sA) (Kp_0 kq r5)⟩
        · have kq2 := Kp_t kq r10
          match f1, (show 0 < f1 by omega) with
          | f1 + 1, hf1 =>
          obtain ⟨ru3, b1, b2, b3⟩ := go_back (n := n) (f := f1) (tx := tx1) (me := me') hc hk (show m < 16 by omega) (show a < nU mc by omega) (by omega) r8 r7 hR1.2.2.2.2.2.1 hR1.2.2.2.2.2.2.2.1 hR1.2.2.2.2.2.2.2.2.2.1 kq2
          have em : nI (m + 1) + (-1) = nI m := by rw [nI_m1 (by omega), nI_pred]
          rw [em] at r3
          have hp3 := pot_edge (bs := bs) (f' := mr_cells mr') (s' := ((w + 1 + w2 : Nat) : Int)) (t := i + 1) hl ho hrd hst hr hS hp hi (by omega) hx (by dsimp only; omega) (by dsimp only; omega) t13 (fun k hk' h => by
            unfold cntV
            refine congrArg Int32.toInt (Classical.byContradiction fun z => pN k hk' h.1 (r11 _ ?_))
            rw [cel2]; exact z)
          have main := IH (q - (1 + w2)) (by omega) (i + 1) (w + 1 + w2) d (sA + 1 + w2) f1 f1' (tx1 + 1) me' ru3 mr' (by omega) hp3 (fun h => by
            rcases sd with z | ⟨z1, z2⟩
            · omega
            · rw [z2]; omega) (fun h => by
            rcases sd with z | z
            · have : (dB mc u i (dF' i)).toInt = 0 := by rw [z.2]; decide
              omega
            · omega) b3 b2 r9 (by omega) (by omega) (by omega)
          have e1 : sA + (1 + w2) = sA + 1 + w2 := by omega
          exact ResR_pre (c := 1 + w2) (hX.trans (r2.trans b1)) (hB.trans r3) (by omega) (by omega) (by omega) (by omega) (Kp_m (by omega) (Kp_t (Kp_1 mr m i sA) (Kp_m (by omega) kq2))) (fun j hj => by
            rw [← cel2] at hj; exact pW j (r11 j hj)) (by rw [e1]; exact main)
      -- any other
      have ho18 : ¬ mc_numbers mc (fi mc u + i) = 18 := fun z => c18 (by rw [uq, k18] at z; exact z)
      have ho15 : ¬ mc_numbers mc (fi mc u + i) = 15 := fun z => cl (Or.inl (by rw [uq, k15] at z; exact z))
      have ho16 : ¬ mc_numbers mc (fi mc u + i) = 16 := fun z => cl (Or.inr (by rw [uq, k16] at z; exact z))
      obtain ⟨me', ru', e, mr', x1, x2, x3⟩ := act_ok (n := n) hc hk hu hi hm20 hl hF hP hR hfl hM (by have := hCh.1; omega) (by have := hCh.2.1; omega) (by omega) (fun z => cl (Or.inl z)) (fun z => cl (Or.inr z)) c18
      rw [x1, Option.bind_some] at hT
      rw [if_neg ho15, if_neg ho16, if_neg ho18, x2, Option.bind_some] at hT'
      dsimp only at hT hT'
      rcases x3 with ⟨e0, fl', t, d', z1, z2, z3, z4, z5⟩ | ⟨en, fl', z1, z2⟩
      · subst e0
        have hp2 := pot_step (bs := bs) hl ho hrd hst hr hS hA hp hi z5
        have ple := pot_le13 (bs := bs) hl ho hrd hst hr hS hA hp2
        have sd := eff_suc hl hi hCh z5
        have main := IH (q - 1) (by omega) t (w + 1) d' (sA + 1) f f' (tx + 1) me' ru' mr' (by omega) (by rw [show ((w + 1 : Nat) : Int) = (w : Int) + 1 by omega]; exact hp2) (fun h => by
            rcases sd with y | ⟨y1, y2⟩
            · omega
            · rw [y2]; have := hCh.1; omega) (fun h => by
            rcases sd with y | y
            · have : (dB mc u i (dF' i)).toInt = 0 := by rw [y.2]; decide
              omega
            · omega) z1 fl' z2 (by omega) (by omega) (by omega)
        exact ResR_pre (c := 1) hT hT' (by omega) (by omega) (by omega) (by omega) z3 (eff_W hl hi z5) main
      · have ne : e ≠ 0 := fun z => by rw [z] at en; exact absurd en (by decide)
        obtain ⟨f2, rfl⟩ : ∃ f2, f = f2 + 1 := ⟨f - 1, by omega⟩
        obtain ⟨f3, rfl⟩ : ∃ f3, f' = f3 + 1 := ⟨f' - 1, by omega⟩
        have hX := hT.trans (ru_fin (n := n) (ko := ko) (f := f2) (tx := tx + 1) (me := me') (by omega) fl' ne)
        have hY : r_Mo_scan_l99 n mc (f3 + 1) mr' (nI m) e = r_Mo_scan_j311 n mc mr' e := by
          rw [r_Mo_scan_l99, if_neg (lt0 (by omega)), if_neg ne]
        exact Or.inl ⟨e, me', ru', mr', hX, hT'.trans hY, en, z1, z2⟩
theorem unit_run (hc : CodeOK mc) (hk : KoRel ko mc) (hG : ∀ v, v < nU mc → UnitOK mc v st) : ∀ u, u < nU mc → UnitR n ko mc st u := by
  intro u
  induction u using Nat.strongRecOn with
  | ind u ih =>
    intro hu m bs D0 sA q f f' tx me ru mr hm hF hR hfl hM hD0 hq hf hf' htx
    have hst0 : ∀ a, a < u → 0 ≤ st a := fun a ha => (hG a (by omega)).2.2.2.2.1
    obtain ⟨rd, stT, r, p1, p2, p3, p4, p5, p6⟩ := unit_row (hG u hu) hst0
    obtain ⟨g1, hl, ho, g4, -⟩ := hG u hu
    obtain ⟨dF, d1, d2, d3⟩ := dep_ok hl ho g4
    have z0 : (dF 0).toInt = 0 := by rw [d2]; decide
    exact pos_run (n := n) hc hk hG hu (fun a ha => ih a ha (by omega)) p1 p2 p3 p4 p5 p6 d1 d3 hm hF hD0 q 0 0 D0 sA f f' tx me ru mr (by omega) (pot_0 ho p4 _) (fun _ => by omega) (fun _ => rfl) hR hfl hM hf hf' htx
end sim
