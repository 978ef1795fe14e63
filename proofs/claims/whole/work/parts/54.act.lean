/-! a scan: one instruction that begins no unit, both sides -/
theorem l_32 {x : Int64} (h1 : -2147483648 ≤ x.toInt) (h2 : x.toInt < 2147483648) : x.toInt32.toInt = x.toInt := by
  rw [Int64.toInt_toInt32]; exact Int.bmod_eq_of_le (by omega) (by omega)
/-- a unit's frame lies in the cells, and meets no placed unit below it -/
def FrOK (mc : T_mc) (u bs : Nat) : Prop := (frm mc u ≤ 0 ∨ (bs : Int) + frm mc u ≤ 4096) ∧ ∀ v, v < u → 0 ≤ plc mc v → ∀ c : Int, bs ≤ c → c < bs + frm mc u → ¬ (plc mc v ≤ c ∧ c < plc mc v + frm mc v)
def PlOK (mc : T_mc) (u : Nat) : Prop := ∀ v, v < u → 0 ≤ plc mc v → plc mc v + frm mc v ≤ 4096
/-- not a counter of this unit at bs -/
def NonC (mc : T_mc) (u bs j : Nat) : Prop := ∀ k, k < sz mc u → uN mc u k = 12 ∨ uN mc u k = 13 → (j : Int) ≠ bs + uA mc u k
/-- a cell that a unit at bs may write -/
def InW (mc : T_mc) (u bs j : Nat) : Prop := ((bs : Int) ≤ j ∧ (j : Int) < bs + frm mc u) ∨ ∃ v, v < u ∧ 0 ≤ plc mc v ∧ plc mc v ≤ j ∧ (j : Int) < plc mc v + frm mc v
def Eff (mc : T_mc) (u bs i t : Nat) (f f' : Nat → Int32) : Prop :=
  ((uN mc u i ≤ 9 ∨ uN mc u i = 17) ∧ t = i + 1 ∧ ∀ j, f' j ≠ f j → NonC mc u bs j ∧ InW mc u bs j) ∨
  ((uN mc u i = 10 ∨ uN mc u i = 14) ∧ (t : Int) = uA mc u i ∧ f' = f) ∨
  (uN mc u i = 11 ∧ ((t : Int) = uA mc u i ∨ t = i + 1) ∧ f' = f) ∨
  (uN mc u i = 12 ∧ t = i + 1 ∧ f' = upd f (bs + (uA mc u i).toNat) (mc_bs mc (fi mc u + i))) ∨
  (uN mc u i = 13 ∧ ((f (bs + (uA mc u i).toNat) = 0 ∧ (t : Int) = uB mc u i ∧ f' = f) ∨ (f (bs + (uA mc u i).toNat) ≠ 0 ∧ t = i + 1 ∧ f' = upd f (bs + (uA mc u i).toNat) (f (bs + (uA mc u i).toNat) - 1))))
def FR (me : T_me) (ru : T_ru) (mr : T_mr) : Prop := ru_steps ru = mr_lastSteps mr ∧ me_deepest me = mr_deepest mr ∧ ∀ j, j < 4096 → me_cells me j = mr_cells mr j
/-- what a step of both sides leaves -/
def ActR (mc : T_mc) (m u bs i d s : Nat) (mr : T_mr) (X : Option (T_me × T_ru)) (Y : Option (Int32 × T_mr)) : Prop :=
  ∃ me' ru' e mr', X = some (me', ru') ∧ Y = some (e, mr') ∧
    ((e = 0 ∧ ru_fault ru' = 0 ∧ ∃ t d', RS m u bs t (s + 1) ru' mr' ∧ MS d' me' mr' ∧ Kp m mr mr' ∧ (d' : Int) = d - (tkn (uN mc u i).toNat).toInt + (lft (uN mc u i).toNat).toInt ∧ Eff mc u bs i t (mr_cells mr) (mr_cells mr')) ∨
     (e.toInt < 0 ∧ ru_fault ru' = e ∧ FR me' ru' mr' ∧ Kp 0 mr mr'))
theorem cell_rg {mc : T_mc} {u k : Nat} (hl : linesOK mc u) (hk : k < sz mc u) : ¬ bad4 mc u (uN mc u k) (uA mc u k) (uB mc u k) (uC mc u k) ∧ ¬ bad5 mc u (uN mc u k) (uA mc u k) (uB mc u k) (uC mc u k) ∧ ¬ bad2 (uN mc u k) (uA mc u k) (uB mc u k) (uC mc u k) ∧ ¬ bad3 mc u (uN mc u k) (uA mc u k) :=
  ⟨(lineF_0 (hl k hk)).2.2.1, (lineF_0 (hl k hk)).2.2.2.1, (lineF_0 (hl k hk)).1, (lineF_0 (hl k hk)).2.1⟩
/-- counters lie in the frame -/
theorem ctr_rg {mc : T_mc} {u k : Nat} (hl : linesOK mc u) (hk : k < sz mc u) (e : uN mc u k = 12 ∨ uN mc u k = 13) : 0 ≤ uA mc u k ∧ uA mc u k < frm mc u := by
  have h := (cell_rg hl hk).1
  unfold bad4 nCl fCl own at h
  rcases e with e | e <;> (rw [e] at h; simp (config := {decide := true}) only [if_true, if_false, true_and, false_and, false_or] at h; omega)
theorem tkE {k : Nat} {x y : Int} (h : (tkn k).toInt = x ∧ (lft k).toInt = y) {d d' : Nat} (e : (d' : Int) = d - x + y) : (d' : Int) = d - (tkn k).toInt + (lft k).toInt := by rw [h.1, h.2]; exact e
section act
variable {n : Nat} {ko : T_ko} {mc : T_mc} {m u bs i d s : Nat} {me : T_me} {ru : T_ru} {mr : T_mr}
theorem act_0 (hc : CodeOK mc) (hk : KoRel ko mc) (hu : u < nU mc) (hi : i < sz mc u) (hm : m < 20) (hl : linesOK mc u) (hF : FrOK mc u bs) (hP : PlOK mc u) (hR : RS m u bs i s ru mr) (hfl : ru_fault ru = 0) (hM : MS d me mr) (hd1 : (tkn (uN mc u i).toNat).toInt ≤ d) (hd2 : (d : Int) - (tkn (uN mc u i).toNat).toInt + (lft (uN mc u i).toNat).toInt ≤ 1024) (hd3 : d ≤ 1024) (e : uN mc u i = 0) : ActR mc m u bs i d s mr (r_Ru_step n ko me ru) (r_Mo_act n mc (mr1 mr m i s) (nI (fi mc u + i)) (nI m)) := by
  have hf := fi_le hc hu
  have h256 := hc.2.2.2.1
  have hp : fi mc u + i < 256 := by omega
  have hR1 := RS_1 hR
  have hb0 : mr_baseOf (mr1 mr m i s) m = nI bs := hR1.2.2.2.2.2.2.2.2.2.1
  have qA : (mc_as_ mc (fi mc u + i)).toInt = uA mc u i := rfl
  have qB : (mc_bs mc (fi mc u + i)).toInt = uB mc u i := rfl
  have qC : (mc_cs mc (fi mc u + i)).toInt = uC mc u i := rfl
  have en : mc_numbers mc (fi mc u + i) = 0 := by rw [i_eq, k0]; exact e
  have hM1 : MS d me (mr1 mr m i s) := hM
  have K1 := Kp_1 mr m i s
  have cR := cell_rg hl hi
  rw [e] at cR
  have hfl1 : ru_fault (ru1 ru i s) = 0 := hfl
  have tq : (tkn (uN mc u i).toNat).toInt = 0 ∧ (lft (uN mc u i).toNat).toInt = 1 := by rw [e]; decide
  unfold ActR
  rw [step_eq hc hk hu hi hR]
  unfold r_Mo_act
  rw [gr_nI hm (by decide), gr_nI hp h31, gr_nI hp h31, gr_nI hp h31, en, hb0]
  rw [if_neg (by decide), if_pos rfl]
  unfold r_Ru_move
  rw [if_pos rfl]
  obtain ⟨me', mr', p1, p2, p3, p4, p5⟩ := push_ok (n := n) hM1 (by omega) (mc_as_ mc (fi mc u + i))
  rw [p1, p2, Option.bind_some, Option.bind_some, Option.bind_some]
  exact ⟨me', _, 0, mr', rfl, rfl, Or.inl ⟨rfl, hfl1, i + 1, d + 1, RS_q hR1 p4, p3, Kp_q K1 p4, tkE tq (by omega), Or.inl ⟨Or.inl (by rw [e]; decide), rfl, fun j hj => absurd (congrFun p5 j) hj⟩⟩⟩
theorem act_1 (hc : CodeOK mc) (hk : KoRel ko mc) (hu : u < nU mc) (hi : i < sz mc u) (hm : m < 20) (hl : linesOK mc u) (hF : FrOK mc u bs) (hP : PlOK mc u) (hR : RS m u bs i s ru mr) (hfl : ru_fault ru = 0) (hM : MS d me mr) (hd1 : (tkn (uN mc u i).toNat).toInt ≤ d) (hd2 : (d : Int) - (tkn (uN mc u i).toNat).toInt + (lft (uN mc u i).toNat).toInt ≤ 1024) (hd3 : d ≤ 1024) (e : uN mc u i = 1) : ActR mc m u bs i d s mr (r_Ru_step n ko me ru) (r_Mo_act n mc (mr1 mr m i s) (nI (fi mc u + i)) (nI m)) := by
  have hf := fi_le hc hu
  have h256 := hc.2.2.2.1
  have hp : fi mc u + i < 256 := by omega
  have hR1 := RS_1 hR
  have hb0 : mr_baseOf (mr1 mr m i s) m = nI bs := hR1.2.2.2.2.2.2.2.2.2.1
  have qA : (mc_as_ mc (fi mc u + i)).toInt = uA mc u i := rfl
  have qB : (mc_bs mc (fi mc u + i)).toInt = uB mc u i := rfl
  have qC : (mc_cs mc (fi mc u + i)).toInt = uC mc u i := rfl
  have en : mc_numbers mc (fi mc u + i) = 1 := by rw [i_eq, k1]; exact e
  have hM1 : MS d me (mr1 mr m i s) := hM
  have K1 := Kp_1 mr m i s
  have cR := cell_rg hl hi
  rw [e] at cR
  have hfl1 : ru_fault (ru1 ru i s) = 0 := hfl
  have tq : (tkn (uN mc u i).toNat).toInt = 0 ∧ (lft (uN mc u i).toNat).toInt = 1 := by rw [e]; decide
  unfold ActR
  rw [step_eq hc hk hu hi hR]
  unfold r_Mo_act
  rw [gr_nI hm (by decide), gr_nI hp h31, gr_nI hp h31, gr_nI hp h31, en, hb0]
  have cr : 0 ≤ uA mc u i ∧ uA mc u i < frm mc u := by
    have h := cR.1; unfold bad4 nCl fCl own at h; simp (config := {decide := true}) only [if_true, if_false, true_and, false_and, false_or] at h; omega
  have hfr : (bs : Int) + frm mc u ≤ 4096 := hF.1.resolve_left (by omega)
  rw [if_neg (by decide), if_neg (by decide), if_pos rfl]
  unfold r_Ru_move
  rw [if_neg (by decide), if_pos rfl, show ru_base (ru1 ru i s) = nI bs from hR.2.2.2.2.2.2.2.2.1, ad_nI (by rw [qA]; exact cr.1), qA, gr_nI (by omega) (by decide), cell_nI (by omega), Option.bind_some, show me_cells me (bs + (uA mc u i).toNat) = mr_cells (mr1 mr m i s) (bs + (uA mc u i).toNat) from hM.2.2.2.2 _ (by omega)]
  obtain ⟨me', mr', p1, p2, p3, p4, p5⟩ := push_ok (n := n) hM1 (by omega) (mr_cells (mr1 mr m i s) (bs + (uA mc u i).toNat))
  rw [p1, p2, Option.bind_some, Option.bind_some, Option.bind_some]
  exact ⟨me', _, 0, mr', rfl, rfl, Or.inl ⟨rfl, hfl1, i + 1, d + 1, RS_q hR1 p4, p3, Kp_q K1 p4, tkE tq (by omega), Or.inl ⟨Or.inl (by rw [e]; decide), rfl, fun j hj => absurd (congrFun p5 j) hj⟩⟩⟩
theorem act_2 (hc : CodeOK mc) (hk : KoRel ko mc) (hu : u < nU mc) (hi : i < sz mc u) (hm : m < 20) (hl : linesOK mc u) (hF : FrOK mc u bs) (hP : PlOK mc u) (hR : RS m u bs i s ru mr) (hfl : ru_fault ru = 0) (hM : MS d me mr) (hd1 : (tkn (uN mc u i).toNat).toInt ≤ d) (hd2 : (d : Int) - (tkn (uN mc u i).toNat).toInt + (lft (uN mc u i).toNat).toInt ≤ 1024) (hd3 : d ≤ 1024) (e : uN mc u i = 2) : ActR mc m u bs i d s mr (r_Ru_step n ko me ru) (r_Mo_act n mc (mr1 mr m i s) (nI (fi mc u + i)) (nI m)) := by
  have hf := fi_le hc hu
  have h256 := hc.2.2.2.1
  have hp : fi mc u + i < 256 := by omega
  have hR1 := RS_1 hR
  have hb0 : mr_baseOf (mr1 mr m i s) m = nI bs := hR1.2.2.2.2.2.2.2.2.2.1
  have qA : (mc_as_ mc (fi mc u + i)).toInt = uA mc u i := rfl
  have qB : (mc_bs mc (fi mc u + i)).toInt = uB mc u i := rfl
  have qC : (mc_cs mc (fi mc u + i)).toInt = uC mc u i := rfl
  have en : mc_numbers mc (fi mc u + i) = 2 := by rw [i_eq, k2]; exact e
  have hM1 : MS d me (mr1 mr m i s) := hM
  have K1 := Kp_1 mr m i s
  have cR := cell_rg hl hi
  rw [e] at cR
  have hfl1 : ru_fault (ru1 ru i s) = 0 := hfl
  have tq : (tkn (uN mc u i).toNat).toInt = 1 ∧ (lft (uN mc u i).toNat).toInt = 0 := by rw [e]; decide
  unfold ActR
  rw [step_eq hc hk hu hi hR]
  unfold r_Mo_act
  rw [gr_nI hm (by decide), gr_nI hp h31, gr_nI hp h31, gr_nI hp h31, en, hb0]
  have cr : 0 ≤ uA mc u i ∧ uA mc u i < frm mc u := by
    have h := cR.1; unfold bad4 nCl fCl own at h; simp (config := {decide := true}) only [if_true, if_false, true_and, false_and, false_or] at h; omega
  have nc : ∀ k, k < sz mc u → uN mc u k = 12 ∨ uN mc u k = 13 → uA mc u k ≠ uA mc u i := fun k hk' e' z => by
    refine cR.2.1 ⟨by decide, by decide, k, ?_, e', ?_⟩
    · unfold own; rw [if_neg (by decide)]; exact hk'
    · unfold own nCl fCl; simp (config := {decide := true}) only [if_true, if_false, true_and, false_and, false_or]; show uA mc u i ≤ uA mc u k ∧ uA mc u k < uA mc u i + 1; omega
  have hfr : (bs : Int) + frm mc u ≤ 4096 := hF.1.resolve_left (by omega)
  obtain ⟨d', rfl⟩ : ∃ d', d = d' + 1 := ⟨d - 1, by omega⟩
  rw [if_neg (by decide), if_neg (by decide), if_neg (by decide), if_pos rfl]
  unfold r_Ru_move
  obtain ⟨v, me', mr', p1, p2, p3, p4, p5⟩ := pop_ok (n := n) hM1 (by omega)
  obtain ⟨me'', w1, w2⟩ := wr_ok (n := n) (j := bs + (uA mc u i).toNat) (v := v) p3 (by omega)
  rw [if_neg (by decide), if_neg (by decide), if_pos rfl, show ru_base (ru1 ru i s) = nI bs from hR.2.2.2.2.2.2.2.2.1, ad_nI (by rw [qA]; exact cr.1), qA, p1, p2, Option.bind_some, Option.bind_some]
  dsimp only
  rw [ga_nI (by omega) (by decide), nI_clamp (by omega), w1, Option.bind_some, Option.bind_some]
  refine ⟨me'', _, 0, _, rfl, rfl, Or.inl ⟨rfl, hfl1, i + 1, d', RS_q hR1 (Kq_t p4 (Kq_c _ _)), w2, Kp_q K1 (Kq_t p4 (Kq_c _ _)), tkE tq (by omega), Or.inl ⟨Or.inl (by rw [e]; decide), rfl, fun j hj => ?_⟩⟩⟩
  have hj' : upd (mr_cells mr') (bs + (uA mc u i).toNat) v j ≠ mr_cells mr j := hj
  have ej : j = bs + (uA mc u i).toNat := Classical.byContradiction fun z => hj' (by rw [upd_ne z, p5]; rfl)
  exact ⟨fun k hk' e' z => nc k hk' e' (by omega), Or.inl (by omega)⟩
theorem act_3 (hc : CodeOK mc) (hk : KoRel ko mc) (hu : u < nU mc) (hi : i < sz mc u) (hm : m < 20) (hl : linesOK mc u) (hF : FrOK mc u bs) (hP : PlOK mc u) (hR : RS m u bs i s ru mr) (hfl : ru_fault ru = 0) (hM : MS d me mr) (hd1 : (tkn (uN mc u i).toNat).toInt ≤ d) (hd2 : (d : Int) - (tkn (uN mc u i).toNat).toInt + (lft (uN mc u i).toNat).toInt ≤ 1024) (hd3 : d ≤ 1024) (e : uN mc u i = 3) : ActR mc m u bs i d s mr (r_Ru_step n ko me ru) (r_Mo_act n mc (mr1 mr m i s) (nI (fi mc u + i)) (nI m)) := by
  have hf := fi_le hc hu
  have h256 := hc.2.2.2.1
  have hp : fi mc u + i < 256 := by omega
  have hR1 := RS_1 hR
  have hb0 : mr_baseOf (mr1 mr m i s) m = nI bs := hR1.2.2.2.2.2.2.2.2.2.1
  have qA : (mc_as_ mc (fi mc u + i)).toInt = uA mc u i := rfl
  have qB : (mc_bs mc (fi mc u + i)).toInt = uB mc u i := rfl
  have qC : (mc_cs mc (fi mc u + i)).toInt = uC mc u i := rfl
  have en : mc_numbers mc (fi mc u + i) = 3 := by rw [i_eq, k3]; exact e
  have hM1 : MS d me (mr1 mr m i s) := hM
  have K1 := Kp_1 mr m i s
  have cR := cell_rg hl hi
  rw [e] at cR
  have hfl1 : ru_fault (ru1 ru i s) = 0 := hfl
  have tq : (tkn (uN mc u i).toNat).toInt = 1 ∧ (lft (uN mc u i).toNat).toInt = 1 := by rw [e]; decide
  unfold ActR
  rw [step_eq hc hk hu hi hR]
  unfold r_Mo_act
  rw [gr_nI hm (by decide), gr_nI hp h31, gr_nI hp h31, gr_nI hp h31, en, hb0]
  have cr : 1 ≤ uC mc u i ∧ 0 ≤ uA mc u i ∧ uA mc u i + uC mc u i ≤ frm mc u := by
    have h := cR.1; have h2 := cR.2.2.1; unfold bad4 nCl fCl own at h; unfold bad2 at h2; simp (config := {decide := true}) only [if_true, if_false, true_and, false_and, false_or] at h; omega
  have hfr : (bs : Int) + frm mc u ≤ 4096 := hF.1.resolve_left (by omega)
  have hfu := hc.2.2.2.2.2.2.2.1 u hu
  have hfu' : frm mc u ≤ 4096 := hfu.2.1
  have off : ∀ x : Int32, (x.toInt64 - (mc_bs mc (fi mc u + i)).toInt64).toInt = x.toInt - uB mc u i := fun x => by
    have b1 := i_ge x; have b2 := i_lt31 x; have b3 := i_ge (mc_bs mc (fi mc u + i)); have b4 := i_lt31 (mc_bs mc (fi mc u + i))
    rw [l_sub (by rw [l_i, l_i]; omega) (by rw [l_i, l_i]; omega), l_i, l_i, qB]
  have ix : ∀ x : Int32, 0 ≤ x.toInt - uB mc u i → x.toInt - uB mc u i < uC mc u i → nI bs + mc_as_ mc (fi mc u + i) + (x.toInt64 - (mc_bs mc (fi mc u + i)).toInt64).toInt32 = nI (bs + (uA mc u i).toNat + (x.toInt - uB mc u i).toNat) := fun x h1 h2 => by
    have e3 : (x.toInt64 - (mc_bs mc (fi mc u + i)).toInt64).toInt32.toInt = x.toInt - uB mc u i := by rw [l_32 (by rw [off]; omega) (by rw [off]; omega), off]
    rw [ad_nI (by rw [qA]; exact cr.2.1), qA, ad_nI (by rw [e3]; exact h1), e3]
  obtain ⟨d', rfl⟩ : ∃ d', d = d' + 1 := ⟨d - 1, by omega⟩
  obtain ⟨v, me', mr', p1, p2, p3, p4, p5⟩ := pop_ok (n := n) hM1 (by omega)
  rw [if_neg (by decide), if_neg (by decide), if_neg (by decide), if_neg (by decide), if_pos rfl, p2, Option.bind_some]
  unfold r_Ru_move r_Ru_take r_Mo_index
  rw [if_neg (by decide), if_neg (by decide), if_neg (by decide), if_pos rfl, p1, Option.bind_some, show ru_base (ru1 ru i s) = nI bs from hR.2.2.2.2.2.2.2.2.1]
  dsimp only
  rw [gr_nI hp h31, gr_nI hp h31, gr_nI hp h31]
  have bad : ∃ me'_1 ru' e_1 mr'_1, some (me', ru_fault_s (ru1 ru i s) (-3)) = some (me'_1, ru') ∧ (if (0 : Int32) ≤ -1 then (gr (mr_cells mr') (-1) 4096 fun v25 => (r_Mo_push n mr' v25).bind fun q26 => some ((0 : Int32), q26)) else some (-3, mr')) = some (e_1, mr'_1) ∧
      ((e_1 = 0 ∧ ru_fault ru' = 0 ∧ ∃ t d'_1, RS m u bs t (s + 1) ru' mr'_1 ∧ MS d'_1 me'_1 mr'_1 ∧ Kp m mr mr'_1 ∧ (d'_1 : Int) = (d' + 1 : Nat) - (tkn (uN mc u i).toNat).toInt + (lft (uN mc u i).toNat).toInt ∧ Eff mc u bs i t (mr_cells mr) (mr_cells mr'_1)) ∨ (e_1.toInt < 0 ∧ ru_fault ru' = e_1 ∧ FR me'_1 ru' mr'_1 ∧ Kp 0 mr mr'_1)) := by
    rw [if_neg (by decide)]
    refine ⟨_, _, -3, _, rfl, rfl, Or.inr ⟨by decide, rfl, ⟨?_, p3.2.2.1, p3.2.2.2.2⟩, Kp_m (Nat.zero_le _) (Kp_q K1 p4)⟩⟩
    show nI (s + 1) = mr_lastSteps mr'
    rw [p4.2.2.1]; rfl
  by_cases c1 : lg_cmp (v.toInt64 - (mc_bs mc (fi mc u + i)).toInt64) 0 < 0
  · rw [if_pos c1, if_pos c1, Option.bind_some, Option.bind_some, Option.bind_some]; exact bad
  rw [if_neg c1, if_neg c1]
  by_cases c2 : lg_cmp (v.toInt64 - (mc_bs mc (fi mc u + i)).toInt64) (mc_cs mc (fi mc u + i)).toInt64 < 0
  · rw [if_pos c2, if_pos c2]
    rw [lc_lt, off, K0] at c1
    rw [lc_lt, off, l_i, qC] at c2
    rw [ix v (by omega) c2, Option.bind_some, if_pos (by rw [i_le, nI_t (by omega), k0]; omega), gr_nI (by omega) (by decide), cell_nI (by omega), Option.bind_some, p3.2.2.2.2 _ (by omega)]
    obtain ⟨me2, mr2, o1, o2, o3, o4, o5⟩ := push_ok (n := n) p3 (by omega) (mr_cells mr' (bs + (uA mc u i).toNat + (v.toInt - uB mc u i).toNat))
    rw [o1, o2, Option.bind_some, Option.bind_some, Option.bind_some, Option.bind_some]
    exact ⟨_, _, 0, mr2, rfl, rfl, Or.inl ⟨rfl, hfl1, i + 1, d' + 1, RS_q hR1 (Kq_t p4 o4), o3, Kp_q K1 (Kq_t p4 o4), tkE tq (by omega), Or.inl ⟨Or.inl (by rw [e]; decide), rfl, fun j hj => absurd (congrFun (o5.trans p5) j) hj⟩⟩⟩
  · rw [if_neg c2, if_neg c2, Option.bind_some, Option.bind_some, Option.bind_some]; exact bad
theorem act_4 (hc : CodeOK mc) (hk : KoRel ko mc) (hu : u < nU mc) (hi : i < sz mc u) (hm : m < 20) (hl : linesOK mc u) (hF : FrOK mc u bs) (hP : PlOK mc u) (hR : RS m u bs i s ru mr) (hfl : ru_fault ru = 0) (hM : MS d me mr) (hd1 : (tkn (uN mc u i).toNat).toInt ≤ d) (hd2 : (d : Int) - (tkn (uN mc u i).toNat).toInt + (lft (uN mc u i).toNat).toInt ≤ 1024) (hd3 : d ≤ 1024) (e : uN mc u i = 4) : ActR mc m u bs i d s mr (r_Ru_step n ko me ru) (r_Mo_act n mc (mr1 mr m i s) (nI (fi mc u + i)) (nI m)) := by
  have hf := fi_le hc hu
  have h256 := hc.2.2.2.1
  have hp : fi mc u + i < 256 := by omega
  have hR1 := RS_1 hR
  have hb0 : mr_baseOf (mr1 mr m i s) m = nI bs := hR1.2.2.2.2.2.2.2.2.2.1
  have qA : (mc_as_ mc (fi mc u + i)).toInt = uA mc u i := rfl
  have qB : (mc_bs mc (fi mc u + i)).toInt = uB mc u i := rfl
  have qC : (mc_cs mc (fi mc u + i)).toInt = uC mc u i := rfl
  have en : mc_numbers mc (fi mc u + i) = 4 := by rw [i_eq, k4]; exact e
  have hM1 : MS d me (mr1 mr m i s) := hM
  have K1 := Kp_1 mr m i s
  have cR := cell_rg hl hi
  rw [e] at cR
  have hfl1 : ru_fault (ru1 ru i s) = 0 := hfl
  have tq : (tkn (uN mc u i).toNat).toInt = 2 ∧ (lft (uN mc u i).toNat).toInt = 0 := by rw [e]; decide
  unfold ActR
  rw [step_eq hc hk hu hi hR]
  unfold r_Mo_act
  rw [gr_nI hm (by decide), gr_nI hp h31, gr_nI hp h31, gr_nI hp h31, en, hb0]
  have cr : 1 ≤ uC mc u i ∧ 0 ≤ uA mc u i ∧ uA mc u i + uC mc u i ≤ frm mc u := by
    have h := cR.1; have h2 := cR.2.2.1; unfold bad4 nCl fCl own at h; unfold bad2 at h2; simp (config := {decide := true}) only [if_true, if_false, true_and, false_and, false_or] at h; omega
  have hfr : (bs : Int) + frm mc u ≤ 4096 := hF.1.resolve_left (by omega)
  have hfu := hc.2.2.2.2.2.2.2.1 u hu
  have hfu' : frm mc u ≤ 4096 := hfu.2.1
  have off : ∀ x : Int32, (x.toInt64 - (mc_bs mc (fi mc u + i)).toInt64).toInt = x.toInt - uB mc u i := fun x => by
    have b1 := i_ge x; have b2 := i_lt31 x; have b3 := i_ge (mc_bs mc (fi mc u + i)); have b4 := i_lt31 (mc_bs mc (fi mc u + i))
    rw [l_sub (by rw [l_i, l_i]; omega) (by rw [l_i, l_i]; omega), l_i, l_i, qB]
  have ix : ∀ x : Int32, 0 ≤ x.toInt - uB mc u i → x.toInt - uB mc u i < uC mc u i → nI bs + mc_as_ mc (fi mc u + i) + (x.toInt64 - (mc_bs mc (fi mc u + i)).toInt64).toInt32 = nI (bs + (uA mc u i).toNat + (x.toInt - uB mc u i).toNat) := fun x h1 h2 => by
    have e3 : (x.toInt64 - (mc_bs mc (fi mc u + i)).toInt64).toInt32.toInt = x.toInt - uB mc u i := by rw [l_32 (by rw [off]; omega) (by rw [off]; omega), off]
    rw [ad_nI (by rw [qA]; exact cr.2.1), qA, ad_nI (by rw [e3]; exact h1), e3]
  have nc : ∀ k, k < sz mc u → uN mc u k = 12 ∨ uN mc u k = 13 → ¬ (uA mc u i ≤ uA mc u k ∧ uA mc u k < uA mc u i + uC mc u i) := fun k hk' e' z => by
    refine cR.2.1 ⟨by decide, by decide, k, ?_, e', ?_⟩
    · unfold own; rw [if_neg (by decide)]; exact hk'
    · unfold own nCl fCl; simp (config := {decide := true}) only [if_true, if_false, true_and, false_and, false_or]; exact z
  obtain ⟨d', rfl⟩ : ∃ d', d = d' + 1 + 1 := ⟨d - 2, by omega⟩
  obtain ⟨w, me0, mr0, p1, p2, p3, p4, p5⟩ := pop_ok (n := n) hM1 (by omega)
  obtain ⟨v, me', mr', r1, r2, r3, r4, r5⟩ := pop_ok (n := n) p3 (by omega)
  rw [if_neg (by decide), if_neg (by decide), if_neg (by decide), if_neg (by decide), if_neg (by decide), if_pos rfl, p2, Option.bind_some]
  dsimp only
  rw [r2, Option.bind_some]
  unfold r_Ru_move r_Ru_put r_Mo_index
  rw [if_neg (by decide), if_neg (by decide), if_neg (by decide), if_neg (by decide), if_pos rfl, p1, Option.bind_some, show ru_base (ru1 ru i s) = nI bs from hR.2.2.2.2.2.2.2.2.1]
  dsimp only
  rw [r1, Option.bind_some]
  dsimp only
  rw [gr_nI hp h31, gr_nI hp h31, gr_nI hp h31]
  have bad : ∃ me'_1 ru' e_1 mr'_1, some (me', ru_fault_s (ru1 ru i s) (-3)) = some (me'_1, ru') ∧ (if (0 : Int32) ≤ -1 then ga (-1) 4096 (some ((0 : Int32), mr_cells_s mr' (upd (mr_cells mr') (-1 : Int32).toNatClampNeg w))) else some (-3, mr')) = some (e_1, mr'_1) ∧
      ((e_1 = 0 ∧ ru_fault ru' = 0 ∧ ∃ t d'_1, RS m u bs t (s + 1) ru' mr'_1 ∧ MS d'_1 me'_1 mr'_1 ∧ Kp m mr mr'_1 ∧ (d'_1 : Int) = (d' + 1 + 1 : Nat) - (tkn (uN mc u i).toNat).toInt + (lft (uN mc u i).toNat).toInt ∧ Eff mc u bs i t (mr_cells mr) (mr_cells mr'_1)) ∨ (e_1.toInt < 0 ∧ ru_fault ru' = e_1 ∧ FR me'_1 ru' mr'_1 ∧ Kp 0 mr mr'_1)) := by
    rw [if_neg (by decide)]
    refine ⟨_, _, -3, _, rfl, rfl, Or.inr ⟨by decide, rfl, ⟨?_, r3.2.2.1, r3.2.2.2.2⟩, Kp_m (Nat.zero_le _) (Kp_q K1 (Kq_t p4 r4))⟩⟩
    show nI (s + 1) = mr_lastSteps mr'
    rw [r4.2.2.1, p4.2.2.1]; rfl
  by_cases c1 : lg_cmp (v.toInt64 - (mc_bs mc (fi mc u + i)).toInt64) 0 < 0
  · rw [if_pos c1, if_pos c1, Option.bind_some, Option.bind_some, Option.bind_some]; exact bad
  rw [if_neg c1, if_neg c1]
  by_cases c2 : lg_cmp (v.toInt64 - (mc_bs mc (fi mc u + i)).toInt64) (mc_cs mc (fi mc u + i)).toInt64 < 0
  · rw [if_pos c2, if_pos c2]
    rw [lc_lt, off, K0] at c1
    rw [lc_lt, off, l_i, qC] at c2
    obtain ⟨me2, o1, o2⟩ := wr_ok (n := n) (j := bs + (uA mc u i).toNat + (v.toInt - uB mc u i).toNat) (v := w) r3 (by omega)
    rw [ix v (by omega) c2, Option.bind_some, if_pos (by rw [i_le, nI_t (by omega), k0]; omega), ga_nI (by omega) (by decide), nI_clamp (by omega), o1, Option.bind_some, Option.bind_some, Option.bind_some]
    refine ⟨_, _, 0, _, rfl, rfl, Or.inl ⟨rfl, hfl1, i + 1, d', RS_q hR1 (Kq_t (Kq_t p4 r4) (Kq_c _ _)), o2, Kp_q K1 (Kq_t (Kq_t p4 r4) (Kq_c _ _)), tkE tq (by omega), Or.inl ⟨Or.inl (by rw [e]; decide), rfl, fun j hj => ?_⟩⟩⟩
    have hj' : upd (mr_cells mr') (bs + (uA mc u i).toNat + (v.toInt - uB mc u i).toNat) w j ≠ mr_cells mr j := hj
    have ej : j = bs + (uA mc u i).toNat + (v.toInt - uB mc u i).toNat := Classical.byContradiction fun z => hj' (by rw [upd_ne z, r5, p5]; rfl)
    exact ⟨fun k hk' e' z => nc k hk' e' (by omega), Or.inl (by omega)⟩
  · rw [if_neg c2, if_neg c2, Option.bind_some, Option.bind_some, Option.bind_some]; exact bad
theorem act_5 (hc : CodeOK mc) (hk : KoRel ko mc) (hu : u < nU mc) (hi : i < sz mc u) (hm : m < 20) (hl : linesOK mc u) (hF : FrOK mc u bs) (hP : PlOK mc u) (hR : RS m u bs i s ru mr) (hfl : ru_fault ru = 0) (hM : MS d me mr) (hd1 : (tkn (uN mc u i).toNat).toInt ≤ d) (hd2 : (d : Int) - (tkn (uN mc u i).toNat).toInt + (lft (uN mc u i).toNat).toInt ≤ 1024) (hd3 : d ≤ 1024) (e : uN mc u i = 5) : ActR mc m u bs i d s mr (r_Ru_step n ko me ru) (r_Mo_act n mc (mr1 mr m i s) (nI (fi mc u + i)) (nI m)) := by
  have hf := fi_le hc hu
  have h256 := hc.2.2.2.1
  have hp : fi mc u + i < 256 := by omega
  have hR1 := RS_1 hR
  have hb0 : mr_baseOf (mr1 mr m i s) m = nI bs := hR1.2.2.2.2.2.2.2.2.2.1
  have qA : (mc_as_ mc (fi mc u + i)).toInt = uA mc u i := rfl
  have qB : (mc_bs mc (fi mc u + i)).toInt = uB mc u i := rfl
  have qC : (mc_cs mc (fi mc u + i)).toInt = uC mc u i := rfl
  have en : mc_numbers mc (fi mc u + i) = 5 := by rw [i_eq, k5]; exact e
  have hM1 : MS d me (mr1 mr m i s) := hM
  have K1 := Kp_1 mr m i s
  have cR := cell_rg hl hi
  rw [e] at cR
  have hfl1 : ru_fault (ru1 ru i s) = 0 := hfl
  have tq : (tkn (uN mc u i).toNat).toInt = 0 ∧ (lft (uN mc u i).toNat).toInt = 1 := by rw [e]; decide
  unfold ActR
  rw [step_eq hc hk hu hi hR]
  unfold r_Mo_act
  rw [gr_nI hm (by decide), gr_nI hp h31, gr_nI hp h31, gr_nI hp h31, en, hb0]
  have cu : (0 ≤ uA mc u i ∧ uA mc u i < u) ∧ 0 ≤ plc mc (uA mc u i).toNat := by
    have h := cR.2.2.2; unfold bad3 at h; omega
  have cr : 0 ≤ uB mc u i ∧ uB mc u i < frm mc (uA mc u i).toNat := by
    have h := cR.1; unfold bad4 nCl fCl own at h; simp (config := {decide := true}) only [if_true, if_false, true_and, false_and, false_or] at h; omega
  have hpl := hP (uA mc u i).toNat (by omega) cu.2
  have h16 := hc.2.1
  have ea : mc_as_ mc (fi mc u + i) = nI (uA mc u i).toNat := i_nat cu.1.1
  have ep : mc_places mc (uA mc u i).toNat = nI (plc mc (uA mc u i).toNat).toNat := i_nat cu.2
  have eq : nI (plc mc (uA mc u i).toNat).toNat + mc_bs mc (fi mc u + i) = nI ((plc mc (uA mc u i).toNat).toNat + (uB mc u i).toNat) := by rw [ad_nI (by rw [qB]; exact cr.1), qB]
  rw [if_neg (by decide), if_neg (by decide), if_neg (by decide), if_neg (by decide), if_neg (by decide), if_neg (by decide), if_pos rfl, ea, gr_nI (by omega) (by decide)]
  unfold r_Ru_move
  rw [if_neg (by decide), if_neg (by decide), if_neg (by decide), if_neg (by decide), if_neg (by decide), if_pos rfl, co_place hc hk (by omega), Option.bind_some, ep, eq, gr_nI (by omega) (by decide), cell_nI (by omega), Option.bind_some, show me_cells me ((plc mc (uA mc u i).toNat).toNat + (uB mc u i).toNat) = mr_cells (mr1 mr m i s) ((plc mc (uA mc u i).toNat).toNat + (uB mc u i).toNat) from hM.2.2.2.2 _ (by omega)]
  obtain ⟨me', mr', p1, p2, p3, p4, p5⟩ := push_ok (n := n) hM1 (by omega) (mr_cells (mr1 mr m i s) ((plc mc (uA mc u i).toNat).toNat + (uB mc u i).toNat))
  rw [p1, p2, Option.bind_some, Option.bind_some, Option.bind_some]
  exact ⟨me', _, 0, mr', rfl, rfl, Or.inl ⟨rfl, hfl1, i + 1, d + 1, RS_q hR1 p4, p3, Kp_q K1 p4, tkE tq (by omega), Or.inl ⟨Or.inl (by rw [e]; decide), rfl, fun j hj => absurd (congrFun p5 j) hj⟩⟩⟩
theorem act_6 (hc : CodeOK mc) (hk : KoRel ko mc) (hu : u < nU mc) (hi : i < sz mc u) (hm : m < 20) (hl : linesOK mc u) (hF : FrOK mc u bs) (hP : PlOK mc u) (hR : RS m u bs i s ru mr) (hfl : ru_fault ru = 0) (hM : MS d me mr) (hd1 : (tkn (uN mc u i).toNat).toInt ≤ d) (hd2 : (d : Int) - (tkn (uN mc u i).toNat).toInt + (lft (uN mc u i).toNat).toInt ≤ 1024) (hd3 : d ≤ 1024) (e : uN mc u i = 6) : ActR mc m u bs i d s mr (r_Ru_step n ko me ru) (r_Mo_act n mc (mr1 mr m i s) (nI (fi mc u + i)) (nI m)) := by
  have hf := fi_le hc hu
  have h256 := hc.2.2.2.1
  have hp : fi mc u + i < 256 := by omega
  have hR1 := RS_1 hR
  have hb0 : mr_baseOf (mr1 mr m i s) m = nI bs := hR1.2.2.2.2.2.2.2.2.2.1
  have qA : (mc_as_ mc (fi mc u + i)).toInt = uA mc u i := rfl
  have qB : (mc_bs mc (fi mc u + i)).toInt = uB mc u i := rfl
  have qC : (mc_cs mc (fi mc u + i)).toInt = uC mc u i := rfl
  have en : mc_numbers mc (fi mc u + i) = 6 := by rw [i_eq, k6]; exact e
  have hM1 : MS d me (mr1 mr m i s) := hM
  have K1 := Kp_1 mr m i s
  have cR := cell_rg hl hi
  rw [e] at cR
  have hfl1 : ru_fault (ru1 ru i s) = 0 := hfl
  have tq : (tkn (uN mc u i).toNat).toInt = 1 ∧ (lft (uN mc u i).toNat).toInt = 0 := by rw [e]; decide
  unfold ActR
  rw [step_eq hc hk hu hi hR]
  unfold r_Mo_act
  rw [gr_nI hm (by decide), gr_nI hp h31, gr_nI hp h31, gr_nI hp h31, en, hb0]
  have cu : (0 ≤ uA mc u i ∧ uA mc u i < u) ∧ 0 ≤ plc mc (uA mc u i).toNat := by
    have h := cR.2.2.2; unfold bad3 at h; omega
  have cr : 0 ≤ uB mc u i ∧ uB mc u i < frm mc (uA mc u i).toNat := by
    have h := cR.1; unfold bad4 nCl fCl own at h; simp (config := {decide := true}) only [if_true, if_false, true_and, false_and, false_or] at h; omega
  have hpl := hP (uA mc u i).toNat (by omega) cu.2
  have h16 := hc.2.1
  have ea : mc_as_ mc (fi mc u + i) = nI (uA mc u i).toNat := i_nat cu.1.1
  have ep : mc_places mc (uA mc u i).toNat = nI (plc mc (uA mc u i).toNat).toNat := i_nat cu.2
  have eq : nI (plc mc (uA mc u i).toNat).toNat + mc_bs mc (fi mc u + i) = nI ((plc mc (uA mc u i).toNat).toNat + (uB mc u i).toNat) := by rw [ad_nI (by rw [qB]; exact cr.1), qB]
  obtain ⟨d', rfl⟩ : ∃ d', d = d' + 1 := ⟨d - 1, by omega⟩
  obtain ⟨v, me', mr', p1, p2, p3, p4, p5⟩ := pop_ok (n := n) hM1 (by omega)
  obtain ⟨me'', w1, w2⟩ := wr_ok (n := n) (j := (plc mc (uA mc u i).toNat).toNat + (uB mc u i).toNat) (v := v) p3 (by omega)
  rw [if_neg (by decide), if_neg (by decide), if_neg (by decide), if_neg (by decide), if_neg (by decide), if_neg (by decide), if_neg (by decide), if_pos rfl, ea, gr_nI (by omega) (by decide)]
  unfold r_Ru_move
  rw [if_neg (by decide), if_neg (by decide), if_neg (by decide), if_neg (by decide), if_neg (by decide), if_neg (by decide), if_pos rfl, co_place hc hk (by omega), Option.bind_some, ep, eq, p1, p2, Option.bind_some, Option.bind_some]
  dsimp only
  rw [ga_nI (by omega) (by decide), nI_clamp (by omega), w1, Option.bind_some, Option.bind_some]
  refine ⟨me'', _, 0, _, rfl, rfl, Or.inl ⟨rfl, hfl1, i + 1, d', RS_q hR1 (Kq_t p4 (Kq_c _ _)), w2, Kp_q K1 (Kq_t p4 (Kq_c _ _)), tkE tq (by omega), Or.inl ⟨Or.inl (by rw [e]; decide), rfl, fun j hj => ?_⟩⟩⟩
  have hj' : upd (mr_cells mr') ((plc mc (uA mc u i).toNat).toNat + (uB mc u i).toNat) v j ≠ mr_cells mr j := hj
  have ej : j = (plc mc (uA mc u i).toNat).toNat + (uB mc u i).toNat := Classical.byContradiction fun z => hj' (by rw [upd_ne z, p5]; rfl)
  refine ⟨fun k hk' e' z => ?_, Or.inr ⟨(uA mc u i).toNat, by omega, cu.2, by omega, by omega⟩⟩
  have ck := ctr_rg hl hk' e'
  exact hF.2 (uA mc u i).toNat (by omega) cu.2 (j : Int) (by omega) (by omega) ⟨by omega, by omega⟩
theorem act_7 (hc : CodeOK mc) (hk : KoRel ko mc) (hu : u < nU mc) (hi : i < sz mc u) (hm : m < 20) (hl : linesOK mc u) (hF : FrOK mc u bs) (hP : PlOK mc u) (hR : RS m u bs i s ru mr) (hfl : ru_fault ru = 0) (hM : MS d me mr) (hd1 : (tkn (uN mc u i).toNat).toInt ≤ d) (hd2 : (d : Int) - (tkn (uN mc u i).toNat).toInt + (lft (uN mc u i).toNat).toInt ≤ 1024) (hd3 : d ≤ 1024) (e : uN mc u i = 7) : ActR mc m u bs i d s mr (r_Ru_step n ko me ru) (r_Mo_act n mc (mr1 mr m i s) (nI (fi mc u + i)) (nI m)) := by
  have hf := fi_le hc hu
  have h256 := hc.2.2.2.1
  have hp : fi mc u + i < 256 := by omega
  have hR1 := RS_1 hR
  have hb0 : mr_baseOf (mr1 mr m i s) m = nI bs := hR1.2.2.2.2.2.2.2.2.2.1
  have qA : (mc_as_ mc (fi mc u + i)).toInt = uA mc u i := rfl
  have qB : (mc_bs mc (fi mc u + i)).toInt = uB mc u i := rfl
  have qC : (mc_cs mc (fi mc u + i)).toInt = uC mc u i := rfl
  have en : mc_numbers mc (fi mc u + i) = 7 := by rw [i_eq, k7]; exact e
  have hM1 : MS d me (mr1 mr m i s) := hM
  have K1 := Kp_1 mr m i s
  have cR := cell_rg hl hi
  rw [e] at cR
  have hfl1 : ru_fault (ru1 ru i s) = 0 := hfl
  have tq : (tkn (uN mc u i).toNat).toInt = 2 ∧ (lft (uN mc u i).toNat).toInt = 1 := by rw [e]; decide
  unfold ActR
  rw [step_eq hc hk hu hi hR]
  unfold r_Mo_act
  rw [gr_nI hm (by decide), gr_nI hp h31, gr_nI hp h31, gr_nI hp h31, en, hb0]
  have ar : 0 ≤ uA mc u i ∧ uA mc u i ≤ 24 := by
    have h := cR.2.2.1; unfold bad2 at h; omega
  obtain ⟨d', rfl⟩ : ∃ d', d = d' + 1 + 1 := ⟨d - 2, by omega⟩
  obtain ⟨y, me0, mr0, p1, p2, p3, p4, p5⟩ := pop_ok (n := n) hM1 (by omega)
  obtain ⟨x, me', mr', r1, r2, r3, r4, r5⟩ := pop_ok (n := n) p3 (by omega)
  rw [if_pos (by decide), if_neg (by decide), if_neg (by decide), if_neg (by decide), if_neg (by decide), if_neg (by decide), if_neg (by decide), if_neg (by decide), if_neg (by decide), if_pos rfl, p2, Option.bind_some]
  dsimp only
  rw [r2, Option.bind_some]
  unfold r_Ru_reckon
  rw [p1, Option.bind_some, if_neg (by decide)]
  dsimp only
  rw [r1, Option.bind_some, if_neg (by decide)]
  dsimp only
  have good : ((mc_as_ mc (fi mc u + i) = 3 ∨ mc_as_ mc (fi mc u + i) = 4 ∨ mc_as_ mc (fi mc u + i) = 8 ∨ mc_as_ mc (fi mc u + i) = 9) → y ≠ 0) → ActR mc m u bs i (d' + 1 + 1) s mr ((r_Ru_reckon_j88 n me' (ru1 ru i s) (mc_as_ mc (fi mc u + i)) y x).bind fun q10 => some (q10.1, q10.2)) (r_Mo_act_j300 n mc mr' (mc_as_ mc (fi mc u + i)) y x) := fun hz => by
    obtain ⟨v, v1⟩ := two_some (n := n) (a := mc_as_ mc (fi mc u + i)) (x := x) (y := y) hz
    unfold r_Ru_reckon_j88 r_Mo_act_j300
    rw [two_ok (by rw [qA]; exact ar.1) (by rw [qA]; omega) hz, v1, Option.bind_some, Option.bind_some]
    obtain ⟨me2, mr2, o1, o2, o3, o4, o5⟩ := push_ok (n := n) r3 (by omega) v
    rw [o1, o2, Option.bind_some, Option.bind_some, Option.bind_some]
    exact ⟨_, _, 0, mr2, rfl, rfl, Or.inl ⟨rfl, hfl1, i + 1, d' + 1, RS_q hR1 (Kq_t (Kq_t p4 r4) o4), o3, Kp_q K1 (Kq_t (Kq_t p4 r4) o4), tkE tq (by omega), Or.inl ⟨Or.inl (by rw [e]; decide), rfl, fun j hj => absurd (congrFun ((o5.trans r5).trans p5) j) hj⟩⟩⟩
  have bad : ActR mc m u bs i (d' + 1 + 1) s mr (some (me', ru_fault_s (ru1 ru i s) (-2))) (some (-2, mr')) := by
    refine ⟨_, _, -2, _, rfl, rfl, Or.inr ⟨by decide, rfl, ⟨?_, r3.2.2.1, r3.2.2.2.2⟩, Kp_m (Nat.zero_le _) (Kp_q K1 (Kq_t p4 r4))⟩⟩
    show nI (s + 1) = mr_lastSteps mr'
    rw [r4.2.2.1, p4.2.2.1]; rfl
  by_cases cy : y = 0
  · rw [if_pos cy, if_pos cy]
    unfold r_Re_divides
    by_cases c3 : mc_as_ mc (fi mc u + i) = 3
    · rw [if_pos c3, if_pos c3, Option.bind_some, if_neg (by decide)]; exact bad
    rw [if_neg c3, if_neg c3]
    by_cases c4 : mc_as_ mc (fi mc u + i) = 4
    · rw [if_pos c4, if_pos c4, Option.bind_some, if_neg (by decide)]; exact bad
    rw [if_neg c4, if_neg c4]
    by_cases c8 : mc_as_ mc (fi mc u + i) = 8
    · rw [if_pos c8, if_pos c8, Option.bind_some, if_neg (by decide)]; exact bad
    rw [if_neg c8, if_neg c8]
    by_cases c9 : mc_as_ mc (fi mc u + i) = 9
    · rw [if_pos c9, if_pos c9, Option.bind_some, if_neg (by decide)]; exact bad
    rw [if_neg c9, if_neg c9, Option.bind_some, if_pos rfl]
    exact good (fun z => by rcases z with z | z | z | z <;> contradiction)
  · rw [if_neg cy, if_neg cy]; exact good (fun _ => cy)
theorem act_8 (hc : CodeOK mc) (hk : KoRel ko mc) (hu : u < nU mc) (hi : i < sz mc u) (hm : m < 20) (hl : linesOK mc u) (hF : FrOK mc u bs) (hP : PlOK mc u) (hR : RS m u bs i s ru mr) (hfl : ru_fault ru = 0) (hM : MS d me mr) (hd1 : (tkn (uN mc u i).toNat).toInt ≤ d) (hd2 : (d : Int) - (tkn (uN mc u i).toNat).toInt + (lft (uN mc u i).toNat).toInt ≤ 1024) (hd3 : d ≤ 1024) (e : uN mc u i = 8) : ActR mc m u bs i d s mr (r_Ru_step n ko me ru) (r_Mo_act n mc (mr1 mr m i s) (nI (fi mc u + i)) (nI m)) := by
  have hf := fi_le hc hu
  have h256 := hc.2.2.2.1
  have hp : fi mc u + i < 256 := by omega
  have hR1 := RS_1 hR
  have hb0 : mr_baseOf (mr1 mr m i s) m = nI bs := hR1.2.2.2.2.2.2.2.2.2.1
  have qA : (mc_as_ mc (fi mc u + i)).toInt = uA mc u i := rfl
  have qB : (mc_bs mc (fi mc u + i)).toInt = uB mc u i := rfl
  have qC : (mc_cs mc (fi mc u + i)).toInt = uC mc u i := rfl
  have en : mc_numbers mc (fi mc u + i) = 8 := by rw [i_eq, k8]; exact e
  have hM1 : MS d me (mr1 mr m i s) := hM
  have K1 := Kp_1 mr m i s
  have cR := cell_rg hl hi
  rw [e] at cR
  have hfl1 : ru_fault (ru1 ru i s) = 0 := hfl
  have tq : (tkn (uN mc u i).toNat).toInt = 1 ∧ (lft (uN mc u i).toNat).toInt = 1 := by rw [e]; decide
  unfold ActR
  rw [step_eq hc hk hu hi hR]
  unfold r_Mo_act
  rw [gr_nI hm (by decide), gr_nI hp h31, gr_nI hp h31, gr_nI hp h31, en, hb0]
  obtain ⟨d', rfl⟩ : ∃ d', d = d' + 1 := ⟨d - 1, by omega⟩
  obtain ⟨y, me', mr', p1, p2, p3, p4, p5⟩ := pop_ok (n := n) hM1 (by omega)
  obtain ⟨v, v1⟩ := one_some n (mc_as_ mc (fi mc u + i)) y
  rw [if_pos (by decide), if_neg (by decide), if_neg (by decide), if_neg (by decide), if_neg (by decide), if_neg (by decide), if_neg (by decide), if_neg (by decide), if_neg (by decide), if_neg (by decide), if_pos rfl, p2, Option.bind_some]
  unfold r_Ru_reckon
  rw [p1, Option.bind_some, if_pos rfl, one_ok]
  dsimp only
  rw [v1, Option.bind_some, Option.bind_some]
  obtain ⟨me2, mr2, o1, o2, o3, o4, o5⟩ := push_ok (n := n) p3 (by omega) v
  rw [o1, o2, Option.bind_some, Option.bind_some, Option.bind_some]
  exact ⟨_, _, 0, mr2, rfl, rfl, Or.inl ⟨rfl, hfl1, i + 1, d' + 1, RS_q hR1 (Kq_t p4 o4), o3, Kp_q K1 (Kq_t p4 o4), tkE tq (by omega), Or.inl ⟨Or.inl (by rw [e]; decide), rfl, fun j hj => absurd (congrFun (o5.trans p5) j) hj⟩⟩⟩
theorem act_9 (hc : CodeOK mc) (hk : KoRel ko mc) (hu : u < nU mc) (hi : i < sz mc u) (hm : m < 20) (hl : linesOK mc u) (hF : FrOK mc u bs) (hP : PlOK mc u) (hR : RS m u bs i s ru mr) (hfl : ru_fault ru = 0) (hM : MS d me mr) (hd1 : (tkn (uN mc u i).toNat).toInt ≤ d) (hd2 : (d : Int) - (tkn (uN mc u i).toNat).toInt + (lft (uN mc u i).toNat).toInt ≤ 1024) (hd3 : d ≤ 1024) (e : uN mc u i = 9) : ActR mc m u bs i d s mr (r_Ru_step n ko me ru) (r_Mo_act n mc (mr1 mr m i s) (nI (fi mc u + i)) (nI m)) := by
  have hf := fi_le hc hu
  have h256 := hc.2.2.2.1
  have hp : fi mc u + i < 256 := by omega
  have hR1 := RS_1 hR
  have hb0 : mr_baseOf (mr1 mr m i s) m = nI bs := hR1.2.2.2.2.2.2.2.2.2.1
  have qA : (mc_as_ mc (fi mc u + i)).toInt = uA mc u i := rfl
  have qB : (mc_bs mc (fi mc u + i)).toInt = uB mc u i := rfl
  have qC : (mc_cs mc (fi mc u + i)).toInt = uC mc u i := rfl
  have en : mc_numbers mc (fi mc u + i) = 9 := by rw [i_eq, k9]; exact e
  have hM1 : MS d me (mr1 mr m i s) := hM
  have K1 := Kp_1 mr m i s
  have cR := cell_rg hl hi
  rw [e] at cR
  have hfl1 : ru_fault (ru1 ru i s) = 0 := hfl
  have tq : (tkn (uN mc u i).toNat).toInt = 3 ∧ (lft (uN mc u i).toNat).toInt = 1 := by rw [e]; decide
  unfold ActR
  rw [step_eq hc hk hu hi hR]
  unfold r_Mo_act
  rw [gr_nI hm (by decide), gr_nI hp h31, gr_nI hp h31, gr_nI hp h31, en, hb0]
  obtain ⟨d', rfl⟩ : ∃ d', d = d' + 1 + 1 + 1 := ⟨d - 3, by omega⟩
  obtain ⟨y, me0, mr0, p1, p2, p3, p4, p5⟩ := pop_ok (n := n) hM1 (by omega)
  obtain ⟨x, me', mr', r1, r2, r3, r4, r5⟩ := pop_ok (n := n) p3 (by omega)
  obtain ⟨w, me2, mr2, s1, s2, s3, s4, s5⟩ := pop_ok (n := n) r3 (by omega)
  rw [if_pos (by decide), if_neg (by decide), if_neg (by decide), if_neg (by decide), if_neg (by decide), if_neg (by decide), if_neg (by decide), if_neg (by decide), if_neg (by decide), if_neg (by decide), if_neg (by decide), if_pos rfl, p2, Option.bind_some]
  dsimp only
  rw [r2, Option.bind_some]
  dsimp only
  rw [s2, Option.bind_some]
  unfold r_Ru_reckon
  rw [p1, Option.bind_some, if_neg (by decide)]
  dsimp only
  rw [r1, Option.bind_some, if_pos rfl]
  dsimp only
  rw [s1, Option.bind_some]
  dsimp only
  have good : ∀ v : Int32, ActR mc m u bs i (d' + 1 + 1 + 1) s mr (((r_Me_push n me2 v).bind fun q12 => some (q12, ru1 ru i s)).bind fun q10 => some (q10.1, q10.2)) ((r_Mo_push n mr2 v).bind fun q61 => some (0, q61)) := fun v => by
    obtain ⟨me3, mr3, o1, o2, o3, o4, o5⟩ := push_ok (n := n) s3 (by omega) v
    rw [o1, o2, Option.bind_some, Option.bind_some, Option.bind_some]
    exact ⟨_, _, 0, mr3, rfl, rfl, Or.inl ⟨rfl, hfl1, i + 1, d' + 1, RS_q hR1 (Kq_t (Kq_t (Kq_t p4 r4) s4) o4), o3, Kp_q K1 (Kq_t (Kq_t (Kq_t p4 r4) s4) o4), tkE tq (by omega), Or.inl ⟨Or.inl (by rw [e]; decide), rfl, fun j hj => absurd (congrFun (((o5.trans s5).trans r5).trans p5) j) hj⟩⟩⟩
  by_cases cw : w = 0
  · rw [if_pos cw, if_pos cw]; exact good x
  · rw [if_neg cw, if_neg cw]; exact good y
theorem act_10 (hc : CodeOK mc) (hk : KoRel ko mc) (hu : u < nU mc) (hi : i < sz mc u) (hm : m < 20) (hl : linesOK mc u) (hF : FrOK mc u bs) (hP : PlOK mc u) (hR : RS m u bs i s ru mr) (hfl : ru_fault ru = 0) (hM : MS d me mr) (hd1 : (tkn (uN mc u i).toNat).toInt ≤ d) (hd2 : (d : Int) - (tkn (uN mc u i).toNat).toInt + (lft (uN mc u i).toNat).toInt ≤ 1024) (hd3 : d ≤ 1024) (e : uN mc u i = 10) : ActR mc m u bs i d s mr (r_Ru_step n ko me ru) (r_Mo_act n mc (mr1 mr m i s) (nI (fi mc u + i)) (nI m)) := by
  have hf := fi_le hc hu
  have h256 := hc.2.2.2.1
  have hp : fi mc u + i < 256 := by omega
  have hR1 := RS_1 hR
  have hb0 : mr_baseOf (mr1 mr m i s) m = nI bs := hR1.2.2.2.2.2.2.2.2.2.1
  have qA : (mc_as_ mc (fi mc u + i)).toInt = uA mc u i := rfl
  have qB : (mc_bs mc (fi mc u + i)).toInt = uB mc u i := rfl
  have qC : (mc_cs mc (fi mc u + i)).toInt = uC mc u i := rfl
  have en : mc_numbers mc (fi mc u + i) = 10 := by rw [i_eq, k10]; exact e
  have hM1 : MS d me (mr1 mr m i s) := hM
  have K1 := Kp_1 mr m i s
  have cR := cell_rg hl hi
  rw [e] at cR
  have hfl1 : ru_fault (ru1 ru i s) = 0 := hfl
  have tq : (tkn (uN mc u i).toNat).toInt = 0 ∧ (lft (uN mc u i).toNat).toInt = 0 := by rw [e]; decide
  unfold ActR
  rw [step_eq hc hk hu hi hR]
  unfold r_Mo_act
  rw [gr_nI hm (by decide), gr_nI hp h31, gr_nI hp h31, gr_nI hp h31, en, hb0]
  have ta : 0 ≤ uA mc u i := by have := tgt10 hl hi (Or.inl e); omega
  have ea : mc_as_ mc (fi mc u + i) = nI (uA mc u i).toNat := i_nat ta
  rw [if_pos (by decide), if_pos (by decide), if_neg (by decide), if_neg (by decide), if_neg (by decide), if_neg (by decide), if_neg (by decide), if_neg (by decide), if_neg (by decide), if_neg (by decide), if_neg (by decide), if_neg (by decide), if_neg (by decide), if_pos rfl, ga_nI hm (by decide), nI_clamp (by omega)]
  unfold r_Ru_go
  rw [if_pos rfl, Option.bind_some, ea]
  exact ⟨_, _, 0, _, rfl, rfl, Or.inl ⟨rfl, hfl1, (uA mc u i).toNat, d, RS_j _ hR1, MS_j _ hM1, Kp_j _ K1, tkE tq (by omega), Or.inr (Or.inl ⟨by omega, by omega, rfl⟩)⟩⟩
theorem act_14 (hc : CodeOK mc) (hk : KoRel ko mc) (hu : u < nU mc) (hi : i < sz mc u) (hm : m < 20) (hl : linesOK mc u) (hF : FrOK mc u bs) (hP : PlOK mc u) (hR : RS m u bs i s ru mr) (hfl : ru_fault ru = 0) (hM : MS d me mr) (hd1 : (tkn (uN mc u i).toNat).toInt ≤ d) (hd2 : (d : Int) - (tkn (uN mc u i).toNat).toInt + (lft (uN mc u i).toNat).toInt ≤ 1024) (hd3 : d ≤ 1024) (e : uN mc u i = 14) : ActR mc m u bs i d s mr (r_Ru_step n ko me ru) (r_Mo_act n mc (mr1 mr m i s) (nI (fi mc u + i)) (nI m)) := by
  have hf := fi_le hc hu
  have h256 := hc.2.2.2.1
  have hp : fi mc u + i < 256 := by omega
  have hR1 := RS_1 hR
  have hb0 : mr_baseOf (mr1 mr m i s) m = nI bs := hR1.2.2.2.2.2.2.2.2.2.1
  have qA : (mc_as_ mc (fi mc u + i)).toInt = uA mc u i := rfl
  have qB : (mc_bs mc (fi mc u + i)).toInt = uB mc u i := rfl
  have qC : (mc_cs mc (fi mc u + i)).toInt = uC mc u i := rfl
  have en : mc_numbers mc (fi mc u + i) = 14 := by rw [i_eq, k14]; exact e
  have hM1 : MS d me (mr1 mr m i s) := hM
  have K1 := Kp_1 mr m i s
  have cR := cell_rg hl hi
  rw [e] at cR
  have hfl1 : ru_fault (ru1 ru i s) = 0 := hfl
  have tq : (tkn (uN mc u i).toNat).toInt = 0 ∧ (lft (uN mc u i).toNat).toInt = 0 := by rw [e]; decide
  unfold ActR
  rw [step_eq hc hk hu hi hR]
  unfold r_Mo_act
  rw [gr_nI hm (by decide), gr_nI hp h31, gr_nI hp h31, gr_nI hp h31, en, hb0]
  have ta : 0 ≤ uA mc u i := by have := tgt14 hl hi e; omega
  have ea : mc_as_ mc (fi mc u + i) = nI (uA mc u i).toNat := i_nat ta
  rw [if_pos (by decide), if_pos (by decide), if_neg (by decide), if_neg (by decide), if_neg (by decide), if_neg (by decide), if_neg (by decide), if_neg (by decide), if_neg (by decide), if_neg (by decide), if_neg (by decide), if_neg (by decide), if_neg (by decide), if_neg (by decide), if_neg (by decide), if_neg (by decide), if_neg (by decide), if_pos rfl, ga_nI hm (by decide), nI_clamp (by omega)]
  unfold r_Ru_go
  rw [if_neg (by decide), if_neg (by decide), if_neg (by decide), if_neg (by decide), if_pos rfl, Option.bind_some, ea]
  exact ⟨_, _, 0, _, rfl, rfl, Or.inl ⟨rfl, hfl1, (uA mc u i).toNat, d, RS_j _ hR1, MS_j _ hM1, Kp_j _ K1, tkE tq (by omega), Or.inr (Or.inl ⟨by omega, by omega, rfl⟩)⟩⟩
theorem act_11 (hc : CodeOK mc) (hk : KoRel ko mc) (hu : u < nU mc) (hi : i < sz mc u) (hm : m < 20) (hl : linesOK mc u) (hF : FrOK mc u bs) (hP : PlOK mc u) (hR : RS m u bs i s ru mr) (hfl : ru_fault ru = 0) (hM : MS d me mr) (hd1 : (tkn (uN mc u i).toNat).toInt ≤ d) (hd2 : (d : Int) - (tkn (uN mc u i).toNat).toInt + (lft (uN mc u i).toNat).toInt ≤ 1024) (hd3 : d ≤ 1024) (e : uN mc u i = 11) : ActR mc m u bs i d s mr (r_Ru_step n ko me ru) (r_Mo_act n mc (mr1 mr m i s) (nI (fi mc u + i)) (nI m)) := by
  have hf := fi_le hc hu
  have h256 := hc.2.2.2.1
  have hp : fi mc u + i < 256 := by omega
  have hR1 := RS_1 hR
  have hb0 : mr_baseOf (mr1 mr m i s) m = nI bs := hR1.2.2.2.2.2.2.2.2.2.1
  have qA : (mc_as_ mc (fi mc u + i)).toInt = uA mc u i := rfl
  have qB : (mc_bs mc (fi mc u + i)).toInt = uB mc u i := rfl
  have qC : (mc_cs mc (fi mc u + i)).toInt = uC mc u i := rfl
  have en : mc_numbers mc (fi mc u + i) = 11 := by rw [i_eq, k11]; exact e
  have hM1 : MS d me (mr1 mr m i s) := hM
  have K1 := Kp_1 mr m i s
  have cR := cell_rg hl hi
  rw [e] at cR
  have hfl1 : ru_fault (ru1 ru i s) = 0 := hfl
  have tq : (tkn (uN mc u i).toNat).toInt = 1 ∧ (lft (uN mc u i).toNat).toInt = 0 := by rw [e]; decide
  unfold ActR
  rw [step_eq hc hk hu hi hR]
  unfold r_Mo_act
  rw [gr_nI hm (by decide), gr_nI hp h31, gr_nI hp h31, gr_nI hp h31, en, hb0]
  have ta := tgt10 hl hi (Or.inr e)
  have ea : mc_as_ mc (fi mc u + i) = nI (uA mc u i).toNat := i_nat (show 0 ≤ uA mc u i by omega)
  obtain ⟨d', rfl⟩ : ∃ d', d = d' + 1 := ⟨d - 1, by omega⟩
  obtain ⟨y, me', mr', p1, p2, p3, p4, p5⟩ := pop_ok (n := n) hM1 (by omega)
  have hR2 := RS_q hR1 p4
  rw [if_pos (by decide), if_pos (by decide), if_neg (by decide), if_neg (by decide), if_neg (by decide), if_neg (by decide), if_neg (by decide), if_neg (by decide), if_neg (by decide), if_neg (by decide), if_neg (by decide), if_neg (by decide), if_neg (by decide), if_neg (by decide), if_pos rfl, p2, Option.bind_some]
  dsimp only
  rw [ga_nI hm (by decide), gr_nI hm (by decide), ga_nI hm (by decide), nI_clamp (by omega)]
  unfold r_Ru_go
  rw [if_neg (by decide), if_pos rfl, p1, Option.bind_some, ea]
  dsimp only
  by_cases cy : y = 0
  · rw [if_pos cy, if_pos cy, Option.bind_some]
    exact ⟨_, _, 0, _, rfl, rfl, Or.inl ⟨rfl, hfl1, (uA mc u i).toNat, d', RS_j _ hR2, MS_j _ p3, Kp_j _ (Kp_q K1 p4), tkE tq (by omega), Or.inr (Or.inr (Or.inl ⟨e, Or.inl (by omega), p5⟩))⟩⟩
  · rw [if_neg cy, if_neg cy, Option.bind_some, show ru_next (ru1 ru i s) = nI (i + 1) from rfl, show mr_nextOf mr' m = nI (i + 1) from hR2.2.2.2.2.2.2.2.1]
    exact ⟨_, _, 0, _, rfl, rfl, Or.inl ⟨rfl, hfl1, i + 1, d', RS_j _ hR2, MS_j _ p3, Kp_j _ (Kp_q K1 p4), tkE tq (by omega), Or.inr (Or.inr (Or.inl ⟨e, Or.inr rfl, p5⟩))⟩⟩
theorem act_12 (hc : CodeOK mc) (hk : KoRel ko mc) (hu : u < nU mc) (hi : i < sz mc u) (hm : m < 20) (hl : linesOK mc u) (hF : FrOK mc u bs) (hP : PlOK mc u) (hR : RS m u bs i s ru mr) (hfl : ru_fault ru = 0) (hM : MS d me mr) (hd1 : (tkn (uN mc u i).toNat).toInt ≤ d) (hd2 : (d : Int) - (tkn (uN mc u i).toNat).toInt + (lft (uN mc u i).toNat).toInt ≤ 1024) (hd3 : d ≤ 1024) (e : uN mc u i = 12) : ActR mc m u bs i d s mr (r_Ru_step n ko me ru) (r_Mo_act n mc (mr1 mr m i s) (nI (fi mc u + i)) (nI m)) := by
  have hf := fi_le hc hu
  have h256 := hc.2.2.2.1
  have hp : fi mc u + i < 256 := by omega
  have hR1 := RS_1 hR
  have hb0 : mr_baseOf (mr1 mr m i s) m = nI bs := hR1.2.2.2.2.2.2.2.2.2.1
  have qA : (mc_as_ mc (fi mc u + i)).toInt = uA mc u i := rfl
  have qB : (mc_bs mc (fi mc u + i)).toInt = uB mc u i := rfl
  have qC : (mc_cs mc (fi mc u + i)).toInt = uC mc u i := rfl
  have en : mc_numbers mc (fi mc u + i) = 12 := by rw [i_eq, k12]; exact e
  have hM1 : MS d me (mr1 mr m i s) := hM
  have K1 := Kp_1 mr m i s
  have cR := cell_rg hl hi
  rw [e] at cR
  have hfl1 : ru_fault (ru1 ru i s) = 0 := hfl
  have tq : (tkn (uN mc u i).toNat).toInt = 0 ∧ (lft (uN mc u i).toNat).toInt = 0 := by rw [e]; decide
  unfold ActR
  rw [step_eq hc hk hu hi hR]
  unfold r_Mo_act
  rw [gr_nI hm (by decide), gr_nI hp h31, gr_nI hp h31, gr_nI hp h31, en, hb0]
  have cr := ctr_rg hl hi (Or.inl e)
  have hfr : (bs : Int) + frm mc u ≤ 4096 := hF.1.resolve_left (by omega)
  obtain ⟨me', w1, w2⟩ := wr_ok (n := n) (j := bs + (uA mc u i).toNat) (v := mc_bs mc (fi mc u + i)) hM1 (by omega)
  rw [if_pos (by decide), if_pos (by decide), if_neg (by decide), if_neg (by decide), if_neg (by decide), if_neg (by decide), if_neg (by decide), if_neg (by decide), if_neg (by decide), if_neg (by decide), if_neg (by decide), if_neg (by decide), if_neg (by decide), if_neg (by decide), if_neg (by decide), if_pos rfl, ad_nI (by rw [qA]; exact cr.1), qA, ga_nI (by omega) (by decide), nI_clamp (by omega)]
  unfold r_Ru_go
  rw [if_neg (by decide), if_neg (by decide), if_pos rfl, show ru_base (ru1 ru i s) = nI bs from hR.2.2.2.2.2.2.2.2.1, ad_nI (by rw [qA]; exact cr.1), qA, w1, Option.bind_some, Option.bind_some]
  exact ⟨_, _, 0, _, rfl, rfl, Or.inl ⟨rfl, hfl1, i + 1, d, RS_q hR1 (Kq_c _ _), w2, Kp_q K1 (Kq_c _ _), tkE tq (by omega), Or.inr (Or.inr (Or.inr (Or.inl ⟨e, rfl, rfl⟩)))⟩⟩
theorem act_13 (hc : CodeOK mc) (hk : KoRel ko mc) (hu : u < nU mc) (hi : i < sz mc u) (hm : m < 20) (hl : linesOK mc u) (hF : FrOK mc u bs) (hP : PlOK mc u) (hR : RS m u bs i s ru mr) (hfl : ru_fault ru = 0) (hM : MS d me mr) (hd1 : (tkn (uN mc u i).toNat).toInt ≤ d) (hd2 : (d : Int) - (tkn (uN mc u i).toNat).toInt + (lft (uN mc u i).toNat).toInt ≤ 1024) (hd3 : d ≤ 1024) (e : uN mc u i = 13) : ActR mc m u bs i d s mr (r_Ru_step n ko me ru) (r_Mo_act n mc (mr1 mr m i s) (nI (fi mc u + i)) (nI m)) := by
  have hf := fi_le hc hu
  have h256 := hc.2.2.2.1
  have hp : fi mc u + i < 256 := by omega
  have hR1 := RS_1 hR
  have hb0 : mr_baseOf (mr1 mr m i s) m = nI bs := hR1.2.2.2.2.2.2.2.2.2.1
  have qA : (mc_as_ mc (fi mc u + i)).toInt = uA mc u i := rfl
  have qB : (mc_bs mc (fi mc u + i)).toInt = uB mc u i := rfl
  have qC : (mc_cs mc (fi mc u + i)).toInt = uC mc u i := rfl
  have en : mc_numbers mc (fi mc u + i) = 13 := by rw [i_eq, k13]; exact e
  have hM1 : MS d me (mr1 mr m i s) := hM
  have K1 := Kp_1 mr m i s
  have cR := cell_rg hl hi
  rw [e] at cR
  have hfl1 : ru_fault (ru1 ru i s) = 0 := hfl
  have tq : (tkn (uN mc u i).toNat).toInt = 0 ∧ (lft (uN mc u i).toNat).toInt = 0 := by rw [e]; decide
  unfold ActR
  rw [step_eq hc hk hu hi hR]
  unfold r_Mo_act
  rw [gr_nI hm (by decide), gr_nI hp h31, gr_nI hp h31, gr_nI hp h31, en, hb0]
  have cr := ctr_rg hl hi (Or.inr e)
  have hfr : (bs : Int) + frm mc u ≤ 4096 := hF.1.resolve_left (by omega)
  have tb := tgt13 hl hi e
  have eb : mc_bs mc (fi mc u + i) = nI (uB mc u i).toNat := i_nat (show 0 ≤ uB mc u i by omega)
  obtain ⟨me', w1, w2⟩ := wr_ok (n := n) (j := bs + (uA mc u i).toNat) (v := mr_cells mr (bs + (uA mc u i).toNat) - 1) hM1 (by omega)
  rw [if_pos (by decide), if_pos (by decide), if_neg (by decide), if_neg (by decide), if_neg (by decide), if_neg (by decide), if_neg (by decide), if_neg (by decide), if_neg (by decide), if_neg (by decide), if_neg (by decide), if_neg (by decide), if_neg (by decide), if_neg (by decide), if_neg (by decide), if_neg (by decide), if_pos rfl, ad_nI (by rw [qA]; exact cr.1), qA, gr_nI (by omega) (by decide), gr_nI (by omega) (by decide), ga_nI hm (by decide), ga_nI (by omega) (by decide), nI_clamp (by omega), nI_clamp (by omega)]
  unfold r_Ru_go r_Ru_countDown
  rw [if_neg (by decide), if_neg (by decide), if_neg (by decide), if_pos rfl, show ru_base (ru1 ru i s) = nI bs from hR.2.2.2.2.2.2.2.2.1, ad_nI (by rw [qA]; exact cr.1), qA, cell_nI (by omega), Option.bind_some, show me_cells me (bs + (uA mc u i).toNat) = mr_cells mr (bs + (uA mc u i).toNat) from hM.2.2.2.2 _ (by omega), show mr_cells (mr1 mr m i s) (bs + (uA mc u i).toNat) = mr_cells mr (bs + (uA mc u i).toNat) from rfl]
  by_cases cy : mr_cells mr (bs + (uA mc u i).toNat) = 0
  · rw [if_pos cy, if_pos cy, Option.bind_some, Option.bind_some, eb]
    exact ⟨_, _, 0, _, rfl, rfl, Or.inl ⟨rfl, hfl1, (uB mc u i).toNat, d, RS_j _ hR1, MS_j _ hM1, Kp_j _ K1, tkE tq (by omega), Or.inr (Or.inr (Or.inr (Or.inr ⟨e, Or.inl ⟨cy, by omega, rfl⟩⟩)))⟩⟩
  · rw [if_neg cy, if_neg cy, w1, Option.bind_some, Option.bind_some, Option.bind_some]
    exact ⟨_, _, 0, _, rfl, rfl, Or.inl ⟨rfl, hfl1, i + 1, d, RS_q hR1 (Kq_c _ _), w2, Kp_q K1 (Kq_c _ _), tkE tq (by omega), Or.inr (Or.inr (Or.inr (Or.inr ⟨e, Or.inr ⟨cy, rfl, rfl⟩⟩)))⟩⟩
theorem act_17 (hc : CodeOK mc) (hk : KoRel ko mc) (hu : u < nU mc) (hi : i < sz mc u) (hm : m < 20) (hl : linesOK mc u) (hF : FrOK mc u bs) (hP : PlOK mc u) (hR : RS m u bs i s ru mr) (hfl : ru_fault ru = 0) (hM : MS d me mr) (hd1 : (tkn (uN mc u i).toNat).toInt ≤ d) (hd2 : (d : Int) - (tkn (uN mc u i).toNat).toInt + (lft (uN mc u i).toNat).toInt ≤ 1024) (hd3 : d ≤ 1024) (e : uN mc u i = 17) : ActR mc m u bs i d s mr (r_Ru_step n ko me ru) (r_Mo_act n mc (mr1 mr m i s) (nI (fi mc u + i)) (nI m)) := by
  have hf := fi_le hc hu
  have h256 := hc.2.2.2.1
  have hp : fi mc u + i < 256 := by omega
  have hR1 := RS_1 hR
  have hb0 : mr_baseOf (mr1 mr m i s) m = nI bs := hR1.2.2.2.2.2.2.2.2.2.1
  have qA : (mc_as_ mc (fi mc u + i)).toInt = uA mc u i := rfl
  have qB : (mc_bs mc (fi mc u + i)).toInt = uB mc u i := rfl
  have qC : (mc_cs mc (fi mc u + i)).toInt = uC mc u i := rfl
  have en : mc_numbers mc (fi mc u + i) = 17 := by rw [i_eq, k17]; exact e
  have hM1 : MS d me (mr1 mr m i s) := hM
  have K1 := Kp_1 mr m i s
  have cR := cell_rg hl hi
  rw [e] at cR
  have hfl1 : ru_fault (ru1 ru i s) = 0 := hfl
  have tq : (tkn (uN mc u i).toNat).toInt = 0 ∧ (lft (uN mc u i).toNat).toInt = 0 := by rw [e]; decide
  unfold ActR
  rw [step_eq hc hk hu hi hR]
  unfold r_Mo_act
  rw [gr_nI hm (by decide), gr_nI hp h31, gr_nI hp h31, gr_nI hp h31, en, hb0]
  have ar : 0 ≤ uA mc u i ∧ uA mc u i ≤ 8 := by
    have h := cR.2.2.1; unfold bad2 at h; omega
  have eC : nCl mc 17 (uA mc u i) (uC mc u i) = blC (uA mc u i) := by
    unfold nCl blC; simp (config := {decide := true}) only [if_true, if_false, true_and, false_and, false_or]
    by_cases z : uA mc u i < 5
    · rw [if_pos z, if_pos (by omega)]
    · rw [if_neg z, if_neg (by omega)]
  have pC : 3 ≤ blC (uA mc u i) ∧ blC (uA mc u i) ≤ 6 := by unfold blC; split <;> omega
  have cr : 0 ≤ uB mc u i ∧ uB mc u i + blC (uA mc u i) ≤ frm mc u := by
    have h := cR.1; unfold bad4 at h; rw [eC] at h; unfold fCl own at h; simp (config := {decide := true}) only [if_true, if_false, true_and, false_and, false_or] at h; omega
  have nc : ∀ k, k < sz mc u → uN mc u k = 12 ∨ uN mc u k = 13 → ¬ (uB mc u i ≤ uA mc u k ∧ uA mc u k < uB mc u i + blC (uA mc u i)) := fun k hk' e' z => by
    refine cR.2.1 ⟨by decide, by decide, k, ?_, e', ?_⟩
    · unfold own; rw [if_neg (by decide)]; exact hk'
    · rw [eC]; unfold own fCl; simp (config := {decide := true}) only [if_true, if_false, true_and, false_and, false_or]; exact z
  have hfr : (bs : Int) + frm mc u ≤ 4096 := hF.1.resolve_left (by omega)
  obtain ⟨g, g', b1, b2, b3, b4⟩ := block_ok (n := n) (me := me) (mr := mr1 mr m i s) (b := bs + (uB mc u i).toNat) (now := mr_now mr) (k := mc_as_ mc (fi mc u + i)) rfl (by rw [qA]; exact ar.1) (by rw [qA]; exact ar.2) (by rw [qA]; omega) hM.2.2.2.2
  rw [qA] at b4
  rw [if_pos (by decide), if_pos (by decide), if_pos rfl, if_neg (by decide), if_neg (by decide), if_neg (by decide), if_neg (by decide), if_neg (by decide), if_neg (by decide), if_neg (by decide), if_neg (by decide), if_neg (by decide), if_neg (by decide), if_neg (by decide), if_neg (by decide), if_neg (by decide), if_neg (by decide), if_neg (by decide), ad_nI (by rw [qB]; exact cr.1), qB, b1, b2, Option.bind_some, Option.bind_some]
  refine ⟨_, _, 0, _, rfl, rfl, Or.inl ⟨rfl, hfl1, i + 1, d, RS_q hR1 (Kq_c _ _), ⟨hM.1, hM.2.1, hM.2.2.1, hM.2.2.2.1, b3⟩, Kp_q K1 (Kq_c _ _), tkE tq (by omega), Or.inl ⟨Or.inr e, rfl, fun j hj => ?_⟩⟩⟩
  have hj' : g' j ≠ mr_cells mr j := hj
  have ej : bs + (uB mc u i).toNat ≤ j ∧ (j : Int) < (bs + (uB mc u i).toNat : Nat) + blC (uA mc u i) := Classical.byContradiction fun z => hj' (b4 j z)
  exact ⟨fun k hk' e' z => nc k hk' e' (by omega), Or.inl (by omega)⟩
theorem act_ok (hc : CodeOK mc) (hk : KoRel ko mc) (hu : u < nU mc) (hi : i < sz mc u) (hm : m < 20) (hl : linesOK mc u) (hF : FrOK mc u bs) (hP : PlOK mc u) (hR : RS m u bs i s ru mr) (hfl : ru_fault ru = 0) (hM : MS d me mr) (hd1 : (tkn (uN mc u i).toNat).toInt ≤ d) (hd2 : (d : Int) - (tkn (uN mc u i).toNat).toInt + (lft (uN mc u i).toNat).toInt ≤ 1024) (hd3 : d ≤ 1024) (e15 : uN mc u i ≠ 15) (e16 : uN mc u i ≠ 16) (e18 : uN mc u i ≠ 18) : ActR mc m u bs i d s mr (r_Ru_step n ko me ru) (r_Mo_act n mc (mr1 mr m i s) (nI (fi mc u + i)) (nI m)) := by
  have nr := nu_rg hl hi
  have : ∃ k : Nat, k < 18 ∧ uN mc u i = k := ⟨(uN mc u i).toNat, by omega, by omega⟩
  obtain ⟨k, k1, e⟩ := this
  match k, k1, e with
  | 0, _, e => exact act_0 hc hk hu hi hm hl hF hP hR hfl hM hd1 hd2 hd3 e
  | 1, _, e => exact act_1 hc hk hu hi hm hl hF hP hR hfl hM hd1 hd2 hd3 e
  | 2, _, e => exact act_2 hc hk hu hi hm hl hF hP hR hfl hM hd1 hd2 hd3 e
  | 3, _, e => exact act_3 hc hk hu hi hm hl hF hP hR hfl hM hd1 hd2 hd3 e
  | 4, _, e => exact act_4 hc hk hu hi hm hl hF hP hR hfl hM hd1 hd2 hd3 e
  | 5, _, e => exact act_5 hc hk hu hi hm hl hF hP hR hfl hM hd1 hd2 hd3 e
  | 6, _, e => exact act_6 hc hk hu hi hm hl hF hP hR hfl hM hd1 hd2 hd3 e
  | 7, _, e => exact act_7 hc hk hu hi hm hl hF hP hR hfl hM hd1 hd2 hd3 e
  | 8, _, e => exact act_8 hc hk hu hi hm hl hF hP hR hfl hM hd1 hd2 hd3 e
  | 9, _, e => exact act_9 hc hk hu hi hm hl hF hP hR hfl hM hd1 hd2 hd3 e
  | 10, _, e => exact act_10 hc hk hu hi hm hl hF hP hR hfl hM hd1 hd2 hd3 e
  | 11, _, e => exact act_11 hc hk hu hi hm hl hF hP hR hfl hM hd1 hd2 hd3 e
  | 12, _, e => exact act_12 hc hk hu hi hm hl hF hP hR hfl hM hd1 hd2 hd3 e
  | 13, _, e => exact act_13 hc hk hu hi hm hl hF hP hR hfl hM hd1 hd2 hd3 e
  | 14, _, e => exact act_14 hc hk hu hi hm hl hF hP hR hfl hM hd1 hd2 hd3 e
  | 17, _, e => exact act_17 hc hk hu hi hm hl hF hP hR hfl hM hd1 hd2 hd3 e
  | 15, _, e => exact absurd e e15
  | 16, _, e => exact absurd e e16
  | k + 18, h, _ => exact absurd h (by omega)
end act
