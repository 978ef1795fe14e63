/-! the reference's way of an instruction -/
/-- the reference's edges -/
def mE (mc : T_mc) (u : Nat) (rd st : Nat → Int) (k : Nat) : List (Int × Int) :=
  if uN mc u k = 10 then [(uA mc u k, 1)] else if uN mc u k = 11 then [((k : Int) + 1, 1), (uA mc u k, 1)]
  else if uN mc u k = 13 then (if uB mc u (k - 1) ≤ 0 then [(uB mc u k, 1)] else if rd k = -1 then [((k : Int) + 1, 1)] else [(uB mc u k, 1 + uB mc u (k - 1) * rd k), ((k : Int) + 1, 1 + (uB mc u (k - 1) - 1) * rd k)])
  else if uN mc u k = 14 then [] else if uN mc u k = 15 ∨ uN mc u k = 16 then [((k : Int) + 1, 1 + st (uA mc u k).toNat)]
  else if uN mc u k = 18 then [((sz mc u : Int), 1)] else [((k : Int) + 1, 1)]
def wV (T : Int → Int) : List (Int × Int) → Int
  | [] => -1
  | x :: l => mx (bh x.2 (T x.1)) (wV T l)
def wayV (mc : T_mc) (u : Nat) (rd st : Nat → Int) (T : Int → Int) (c : Option Nat) (k : Nat) : Int :=
  if uN mc u k = 14 then (if ∃ h, c = some h ∧ lst mc u h = k then 1 else -1) else wV T (mE mc u rd st k)
theorem wV_1 {T : Int → Int} {t w : Int} : wV T [(t, w)] = bh w (T t) := by
  have := bh_rg w (T t)
  show mx (bh w (T t)) (-1) = _
  unfold mx; split <;> omega
theorem wV_2 {T : Int → Int} {t w t' w' : Int} : wV T [(t, w), (t', w')] = mx (bh w (T t)) (bh w' (T t')) := by
  show mx (bh w (T t)) (wV T [(t', w')]) = _
  rw [wV_1]
theorem bh_a {y x : Int} (hy : 0 ≤ y) : bh (bh (bC y) 1) x = bh (1 + y) x := by unfold bh bC; (repeat' split) <;> omega
theorem bh_m (x : Int) : bh (bh (-1) 1) x = -1 := by unfold bh bC; (repeat' split) <;> omega
theorem mx_m {x : Int} (h : -1 ≤ x) : mx (-1) x = x := by unfold mx; split <;> omega
theorem mx_m2 {x : Int} (h : -1 ≤ x) : mx x (-1) = x := by unfold mx; split <;> omega
theorem mo_times_s {n : Nat} {mq : T_mq} {k : Nat} {x : Int64} (hk : k < 256) : ∃ v, r_Mo_times n mq (nI k) x = some v := by
  unfold r_Mo_times
  rw [gr_nI hk h31, gr_nI hk h31]
  split
  · exact ⟨_, rfl⟩
  · split
    · obtain ⟨v, e, -⟩ := mo_cut (n := n) (a := x * mq_rounds mq k); rw [e]; exact ⟨v, rfl⟩
    · exact ⟨_, rfl⟩
theorem mo_wayK {n : Nat} {mc : T_mc} {mq : T_mq} (hc : CodeOK mc) {u : Nat} (hu : u < nU mc) (hl : linesOK mc u) (ho : loopsOK mc u) (hfr : mq_from_ mq = nI (fi mc u)) (hmn : mq_many mq = nI (sz mc u)) (c : Option Nat) (hcx : ∀ h, c = some h → h < sz mc u ∧ uN mc u h = 13) {k : Nat} (hks : k < sz mc u)
    (hT : ∀ t : Int, (k : Int) < t → t ≤ sz mc u → wT mc u (wI (mq_ways mq)) c t ≤ 2000000000) (hr : uN mc u k = 13 → -1 ≤ (mq_rounds mq k).toInt ∧ (mq_rounds mq k).toInt ≤ 2000000000) (hst : ∀ a, a < u → 0 ≤ (mq_steps mq a).toInt ∧ (mq_steps mq a).toInt ≤ 1000000000) :
    ∃ v, r_Mo_way n mc mq (nI k) (cN c) = some v ∧ v.toInt = wayV mc u (wI (mq_rounds mq)) (wI (mq_steps mq)) (wT mc u (wI (mq_ways mq)) c) c k := by
  have hf := fi_le hc hu
  have h256 := hc.2.2.2.1
  have h16 := hc.2.1
  have hi : fi mc u + k < 256 := by omega
  have uq : ∀ (w : Int32), mc_numbers mc (fi mc u + k) = w ↔ uN mc u k = w.toInt := fun w => by rw [i_eq]; rfl
  have qA : (mc_as_ mc (fi mc u + k)).toInt = uA mc u k := rfl
  have qB : (mc_bs mc (fi mc u + k)).toInt = uB mc u k := rfl
  have k1T : (nI (k + 1)).toInt = (k : Int) + 1 := by rw [nI_t (by omega)]; omega
  -- one edge
  have one : ∀ (x : Int32) (t : Int) (y : Int64) (w : Int), x.toInt = t → y.toInt = w → (k : Int) < t → t ≤ sz mc u → w ≤ 1000000000000000000 → ∃ q v, r_Mo_wayTo n mc mq x (cN c) = some q ∧ r_Mo_behind n y q = some v ∧ v.toInt = bh w (wT mc u (wI (mq_ways mq)) c t) := fun x t y w hx hy h1 h2 hw => by
    obtain ⟨q, e1, e2⟩ := mo_wayTo (n := n) hc hu hl hfr hmn c hcx (x := x) (by omega)
    have := hT t h1 h2
    rw [hx] at e2
    obtain ⟨v, e3, e4⟩ := mo_behind (n := n) (a := y) (b := q) (by omega) (by omega)
    exact ⟨q, v, e1, e3, by rw [e4, hy, e2]⟩
  have fall : ∀ (y : Int64) (w : Int), y.toInt = w → w ≤ 1000000000000000000 → ∃ q v, r_Mo_wayTo n mc mq (nI (k + 1)) (cN c) = some q ∧ r_Mo_behind n y q = some v ∧ v.toInt = bh w (wT mc u (wI (mq_ways mq)) c ((k : Int) + 1)) := fun y w hy hw => one _ _ y w k1T hy (by omega) (by omega) hw
  unfold r_Mo_way r_Mo_way_j275 wayV
  rw [hfr, nI_add, gr_nI hi h31, nI_1]
  simp only [gr_nI hi h31]
  by_cases c14 : mc_numbers mc (fi mc u + k) = 14
  · have d14 : uN mc u k = 14 := by rw [uq, k14] at c14; exact c14
    rw [if_neg (by rw [c14]; decide), if_neg (by rw [c14]; decide), if_neg (by rw [c14]; decide), if_pos c14, if_pos d14]
    cases c with
    | none =>
      show ∃ v, (if (-1 : Int32) < 0 then _ else _) = _ ∧ _
      rw [if_pos (by decide), if_neg (by rintro ⟨h, e, -⟩; cases e)]
      exact ⟨_, rfl, by decide⟩
    | some h =>
      obtain ⟨a1, a2⟩ := hcx h rfl
      have lr := lst_rg hl ho a1 a2
      show ∃ v, (if nI h < 0 then _ else (r_Mo_lastOf n mc mq (nI h)).bind _) = _ ∧ _
      rw [if_neg (lt0 (by omega)), mo_last hc hu a1 hl a2 hfr, Option.bind_some]
      show ∃ v, (if nI (lst mc u h) = nI k then _ else _) = _ ∧ _
      by_cases e : lst mc u h = k
      · rw [if_pos (by rw [e]), if_pos ⟨h, rfl, e⟩]; exact ⟨_, rfl, by decide⟩
      · rw [if_neg (fun z => e (by rw [i_eq, nI_t (by omega), nI_t (by omega)] at z; omega)), if_neg (by rintro ⟨h', e1, e2⟩; cases e1; exact e e2)]; exact ⟨_, rfl, by decide⟩
  rw [if_neg (show ¬ uN mc u k = 14 from fun z => c14 (by rw [uq, k14]; exact z))]
  have d14 : ¬ uN mc u k = 14 := fun z => c14 (by rw [uq, k14]; exact z)
  unfold mE
  by_cases c10 : mc_numbers mc (fi mc u + k) = 10
  · have d10 : uN mc u k = 10 := by rw [uq, k10] at c10; exact c10
    have tg := tgt10 hl hks (Or.inl d10)
    rw [if_pos c10, if_pos d10, wV_1]
    obtain ⟨q, v, e1, e2, e3⟩ := one _ _ 1 1 qA K1 (by omega) (by omega) (by omega)
    rw [e1, Option.bind_some, e2, Option.bind_some]
    exact ⟨v, rfl, e3⟩
  rw [if_neg c10, if_neg (show ¬ uN mc u k = 10 from fun z => c10 (by rw [uq, k10]; exact z))]
  by_cases c11 : mc_numbers mc (fi mc u + k) = 11
  · have d11 : uN mc u k = 11 := by rw [uq, k11] at c11; exact c11
    have tg := tgt10 hl hks (Or.inr d11)
    rw [if_pos c11, if_pos d11, wV_2]
    obtain ⟨q, v, e1, e2, e3⟩ := fall 1 1 K1 (by omega)
    obtain ⟨q', v', f1, f2, f3⟩ := one _ _ 1 1 qA K1 (by omega) (by omega) (by omega)
    rw [e1, Option.bind_some, e2, Option.bind_some, f1, Option.bind_some, f2, Option.bind_some]
    obtain ⟨g, g1, g2⟩ := mo_greater (n := n) (a := v) (b := v')
    rw [g1]
    exact ⟨g, rfl, by rw [g2, e3, f3]⟩
  rw [if_neg c11, if_neg (show ¬ uN mc u k = 11 from fun z => c11 (by rw [uq, k11]; exact z))]
  by_cases c13 : mc_numbers mc (fi mc u + k) = 13
  · have d13 : uN mc u k = 13 := by rw [uq, k13] at c13; exact c13
    have nx := next_ok ho hks d13
    have tg := tgt13 hl hks d13
    have cr := count_rg hl (show k - 1 < sz mc u by omega) nx.2.1
    have ek : nI (fi mc u + k) - 1 = nI (fi mc u + (k - 1)) := by rw [show (1 : Int32) = nI 1 from rfl, pk_sub (by omega), show fi mc u + k - 1 = fi mc u + (k - 1) by omega]
    have qn : (mc_bs mc (fi mc u + (k - 1))).toInt64.toInt = uB mc u (k - 1) := by rw [l_i]; rfl
    have hrk := hr d13
    have hk256 : k < 256 := by omega
    rw [if_pos c13, if_pos d13, ek, gr_nI (by omega) h31]
    unfold r_Mo_way_j175
    rw [nI_1]
    obtain ⟨a, a1, a2⟩ := mo_times (n := n) (mq := mq) (x := (mc_bs mc (fi mc u + (k - 1))).toInt64) hk256 (by rw [qn]; exact cr) hrk.2
    rw [qn] at a2
    have ar := tm_rg (r := (mq_rounds mq k).toInt) cr.1
    rw [← a2] at ar
    obtain ⟨b, b1, b2⟩ := mo_behind (n := n) (a := a) (b := 1) (by omega) (by rw [K1]; omega)
    rw [K1] at b2
    have br := bh_rg a.toInt 1
    rw [← b2] at br
    obtain ⟨q, v, e1, e2, e3⟩ := one _ _ b _ qB rfl (by omega) (by omega) (by omega)
    rw [b2, a2] at e3
    rw [a1, Option.bind_some, b1, Option.bind_some, e1, Option.bind_some, e2, Option.bind_some, gr_nI hk256 h31]
    have qr : wI (mq_rounds mq) k = (mq_rounds mq k).toInt := rfl
    by_cases cz : uB mc u (k - 1) = 0
    · -- no time at all
      rw [if_pos (show uB mc u (k - 1) ≤ 0 by omega), wV_1]
      have ez : lg_cmp (mc_bs mc (fi mc u + (k - 1))).toInt64 0 = 0 := by rw [lc_eq, qn, K0]; exact cz
      simp only [if_pos ez]
      obtain ⟨g, g1, g2⟩ := mo_greater (n := n) (a := v) (b := -1)
      obtain ⟨s, s1⟩ := mo_times_s (n := n) (mq := mq) (x := (mc_bs mc (fi mc u + (k - 1))).toInt64 - 1) hk256
      rw [s1, Option.bind_some, g1, Option.bind_some]
      refine ⟨g, by split <;> rfl, ?_⟩
      rw [g2, Km1, e3, cz]
      have : tm (mq_rounds mq k).toInt 0 = 0 := if_pos rfl
      rw [this, show bh 0 1 = 1 by decide]
      exact mx_m2 (bh_rg _ _).1
    · have ez : ¬ lg_cmp (mc_bs mc (fi mc u + (k - 1))).toInt64 0 = 0 := by rw [lc_eq, qn, K0]; exact cz
      rw [if_neg (show ¬ uB mc u (k - 1) ≤ 0 by omega)]
      simp only [if_neg ez]
      have en : ((mc_bs mc (fi mc u + (k - 1))).toInt64 - 1).toInt = uB mc u (k - 1) - 1 := by
        rw [l_sub (by rw [qn, K1]; omega) (by rw [qn, K1]; omega), qn, K1]
      by_cases cm : (mq_rounds mq k).toInt = -1
      · rw [if_pos (by rw [lc_eq, Km1]; exact cm), if_pos (show wI (mq_rounds mq) k = -1 from cm), wV_1]
        obtain ⟨y, y1, y2⟩ := mo_behind (n := n) (a := 0) (b := 1) (by rw [K0]; omega) (by rw [K1]; omega)
        rw [K0, K1, show bh 0 1 = 1 by decide] at y2
        obtain ⟨q', v', f1, f2, f3⟩ := fall y 1 y2 (by omega)
        rw [y1, Option.bind_some, f1, Option.bind_some, f2, Option.bind_some]
        obtain ⟨g, g1, g2⟩ := mo_greater (n := n) (a := v) (b := v')
        rw [g1]
        refine ⟨g, rfl, ?_⟩
        have : tm (mq_rounds mq k).toInt (uB mc u (k - 1)) = -1 := by unfold tm; rw [if_neg cz, if_pos (by omega)]
        rw [g2, e3, f3, this, bh_m]
        exact mx_m (bh_rg _ _).1
      · rw [if_neg (by rw [lc_eq, Km1]; exact cm), if_neg (show ¬ wI (mq_rounds mq) k = -1 from cm), wV_2]
        obtain ⟨s, s1, s2⟩ := mo_times (n := n) (mq := mq) (x := (mc_bs mc (fi mc u + (k - 1))).toInt64 - 1) hk256 (by rw [en]; omega) hrk.2
        rw [en] at s2
        have sr := tm_rg (r := (mq_rounds mq k).toInt) (x := uB mc u (k - 1) - 1) (by omega)
        rw [← s2] at sr
        obtain ⟨y, y1, y2⟩ := mo_behind (n := n) (a := s) (b := 1) (by omega) (by rw [K1]; omega)
        rw [K1] at y2
        have yr := bh_rg s.toInt 1
        rw [← y2] at yr
        obtain ⟨q', v', f1, f2, f3⟩ := fall y _ rfl (by omega)
        rw [s1, Option.bind_some, y1, Option.bind_some, f1, Option.bind_some, f2, Option.bind_some]
        obtain ⟨g, g1, g2⟩ := mo_greater (n := n) (a := v) (b := v')
        rw [g1]
        refine ⟨g, rfl, ?_⟩
        have m1 : 0 ≤ uB mc u (k - 1) * (mq_rounds mq k).toInt := Int.mul_nonneg (by omega) (by omega)
        have m2 : 0 ≤ (uB mc u (k - 1) - 1) * (mq_rounds mq k).toInt := Int.mul_nonneg (by omega) (by omega)
        have t1 : tm (mq_rounds mq k).toInt (uB mc u (k - 1)) = bC (uB mc u (k - 1) * (mq_rounds mq k).toInt) := by unfold tm; rw [if_neg cz, if_neg (by omega)]
        have t2 : tm (mq_rounds mq k).toInt (uB mc u (k - 1) - 1) = bC ((uB mc u (k - 1) - 1) * (mq_rounds mq k).toInt) := by
          unfold tm
          by_cases z : uB mc u (k - 1) - 1 = 0
          · rw [if_pos z, z, Int.zero_mul]; decide
          · rw [if_neg z, if_neg (by omega)]
        rw [g2, e3, f3, y2, s2, t1, t2, bh_a m1, bh_a m2, qr]
  rw [if_neg c13, if_neg (show ¬ uN mc u k = 13 from fun z => c13 (by rw [uq, k13]; exact z)), if_neg c14, if_neg d14]
  have cl : (uN mc u k = 15 ∨ uN mc u k = 16) → ∃ v, (gr (mq_steps mq) (mc_as_ mc (fi mc u + k)) 16 fun v45 => (r_Mo_wayTo n mc mq (nI (k + 1)) (cN c)).bind fun q46 => (r_Mo_behind n (1 + v45) q46).bind fun q47 => some q47) = some v ∧ v.toInt = wV (wT mc u (wI (mq_ways mq)) c) [((k : Int) + 1, 1 + wI (mq_steps mq) (uA mc u k).toNat)] := fun z => by
    have r := call_rg hl hks z
    have ea : mc_as_ mc (fi mc u + k) = nI (uA mc u k).toNat := i_nat r.1
    have hs := hst (uA mc u k).toNat (by omega)
    obtain ⟨q, v, e1, e2, e3⟩ := fall (1 + mq_steps mq (uA mc u k).toNat) _ rfl (by rw [l_add (by rw [K1]; omega) (by rw [K1]; omega), K1]; omega)
    rw [ea, gr_nI (by omega) (by decide), e1, Option.bind_some, e2, wV_1]
    refine ⟨v, rfl, ?_⟩
    rw [e3, l_add (by rw [K1]; omega) (by rw [K1]; omega), K1]; rfl
  by_cases c15 : mc_numbers mc (fi mc u + k) = 15
  · have z : uN mc u k = 15 := by rw [uq, k15] at c15; exact c15
    rw [if_pos c15, if_pos (Or.inl z)]; exact cl (Or.inl z)
  rw [if_neg c15]
  by_cases c16 : mc_numbers mc (fi mc u + k) = 16
  · have z : uN mc u k = 16 := by rw [uq, k16] at c16; exact c16
    rw [if_pos c16, if_pos (Or.inr z)]; exact cl (Or.inr z)
  rw [if_neg c16, if_neg (show ¬ (uN mc u k = 15 ∨ uN mc u k = 16) from fun z => z.elim (fun z => c15 (by rw [uq, k15]; exact z)) (fun z => c16 (by rw [uq, k16]; exact z)))]
  by_cases c18 : mc_numbers mc (fi mc u + k) = 18
  · rw [if_pos c18, if_pos (show uN mc u k = 18 by rw [uq, k18] at c18; exact c18), wV_1]
    cases c with
    | none =>
      show ∃ v, (if (0 : Int32) ≤ -1 then _ else _) = _ ∧ _
      rw [if_neg (by decide)]
      refine ⟨_, rfl, ?_⟩
      have : wT mc u (wI (mq_ways mq)) none (sz mc u) = 0 := if_pos rfl
      rw [this]; decide
    | some h =>
      obtain ⟨a1, a2⟩ := hcx h rfl
      have tg := tgt13 hl a1 a2
      show ∃ v, (if (0 : Int32) ≤ nI h then _ else _) = _ ∧ _
      rw [if_pos (by rw [i_le, nI_t (by omega), k0]; omega)]
      refine ⟨_, rfl, ?_⟩
      have : wT mc u (wI (mq_ways mq)) (some h) (sz mc u) = -1 := if_neg (by omega)
      rw [this]; decide
  rw [if_neg c18, if_neg (show ¬ uN mc u k = 18 from fun z => c18 (by rw [uq, k18]; exact z)), wV_1]
  obtain ⟨q, v, e1, e2, e3⟩ := fall 1 1 K1 (by omega)
  rw [e1, Option.bind_some, e2, Option.bind_some]
  exact ⟨v, rfl, e3⟩
