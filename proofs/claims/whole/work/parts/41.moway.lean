/-! the reference's ways: the small functions -/
def bC (v : Int) : Int := if v ≤ 2000000000 then v else 2000000000
def bh (a b : Int) : Int := if a < 0 ∨ b < 0 then -1 else bC (a + b)
def tm (r x : Int) : Int := if x = 0 then 0 else if r < 0 then -1 else bC (x * r)
theorem bh_rg (a b : Int) : -1 ≤ bh a b ∧ bh a b ≤ 2000000000 := by unfold bh bC; (repeat' split) <;> omega
theorem mo_cut {n : Nat} {a : Int64} : ∃ v, r_Mo_cut n a = some v ∧ v.toInt = bC a.toInt := by
  unfold r_Mo_cut bC
  by_cases c : lg_cmp a 2000000000 ≤ 0
  · rw [if_pos c]; rw [lc_le, K2000000000] at c; exact ⟨a, rfl, by rw [if_pos c]⟩
  · rw [if_neg c]; rw [lc_le, K2000000000] at c; exact ⟨_, rfl, by rw [if_neg c]; decide⟩
theorem mo_behind {n : Nat} {a b : Int64} (h1 : a.toInt ≤ 1000000000000000000) (h2 : b.toInt ≤ 1000000000000000000) : ∃ v, r_Mo_behind n a b = some v ∧ v.toInt = bh a.toInt b.toInt := by
  unfold r_Mo_behind bh
  by_cases c1 : lg_cmp a 0 < 0
  · rw [if_pos c1]; rw [lc_lt, K0] at c1; exact ⟨_, rfl, by rw [if_pos (Or.inl c1)]; decide⟩
  rw [if_neg c1]; rw [lc_lt, K0] at c1
  by_cases c2 : 0 ≤ lg_cmp b 0
  · rw [if_pos c2]; rw [lc_ge, K0] at c2
    obtain ⟨v, e1, e2⟩ := mo_cut (n := n) (a := a + b)
    rw [e1]
    exact ⟨v, rfl, by rw [if_neg (by omega), e2, l_add (by omega) (by omega)]⟩
  · rw [if_neg c2]; rw [lc_ge, K0] at c2; exact ⟨_, rfl, by rw [if_pos (Or.inr (by omega))]; decide⟩
theorem mo_greater {n : Nat} {a b : Int64} : ∃ v, r_Mo_greater n a b = some v ∧ v.toInt = mx a.toInt b.toInt := by
  unfold r_Mo_greater mx
  by_cases c : lg_cmp a b ≤ 0
  · rw [if_pos c]; rw [lc_le] at c; exact ⟨b, rfl, by rw [if_pos c]⟩
  · rw [if_neg c]; rw [lc_le] at c; exact ⟨a, rfl, by rw [if_neg c]⟩
theorem mo_times {n : Nat} {mq : T_mq} {k : Nat} {x : Int64} (hk : k < 256) (hx : 0 ≤ x.toInt ∧ x.toInt ≤ 1000000) (hr : (mq_rounds mq k).toInt ≤ 2000000000) : ∃ v, r_Mo_times n mq (nI k) x = some v ∧ v.toInt = tm (mq_rounds mq k).toInt x.toInt := by
  unfold r_Mo_times tm
  by_cases c1 : lg_cmp x 0 = 0
  · rw [if_pos c1]; rw [lc_eq, K0] at c1; exact ⟨0, rfl, by rw [if_pos c1]; decide⟩
  rw [if_neg c1, gr_nI hk h31, gr_nI hk h31]; rw [lc_eq, K0] at c1
  by_cases c2 : 0 ≤ lg_cmp (mq_rounds mq k) 0
  · rw [if_pos c2]; rw [lc_ge, K0] at c2
    have p0 : 0 ≤ x.toInt * (mq_rounds mq k).toInt := Int.mul_nonneg hx.1 c2
    have p1 : x.toInt * (mq_rounds mq k).toInt ≤ 1000000 * 2000000000 := by
      have a1 : x.toInt * (mq_rounds mq k).toInt ≤ 1000000 * (mq_rounds mq k).toInt := Int.mul_le_mul_of_nonneg_right hx.2 c2
      have a2 : 1000000 * (mq_rounds mq k).toInt ≤ 1000000 * 2000000000 := Int.mul_le_mul_of_nonneg_left hr (by omega)
      omega
    obtain ⟨v, e1, e2⟩ := mo_cut (n := n) (a := x * mq_rounds mq k)
    rw [e1]
    exact ⟨v, rfl, by rw [if_neg c1, if_neg (by omega), e2, l_mul (by omega) (by omega)]⟩
  · rw [if_neg c2]; rw [lc_ge, K0] at c2
    exact ⟨_, rfl, by rw [if_neg c1, if_pos (by omega)]; decide⟩
theorem tm_rg {r x : Int} (hx : 0 ≤ x) : -1 ≤ tm r x ∧ tm r x ≤ 2000000000 := by
  unfold tm bC
  split
  · omega
  · split
    · omega
    · have : 0 ≤ x * r := Int.mul_nonneg hx (by omega)
      split <;> omega
/-- a context: top, or a loop's 13 -/
def wT (mc : T_mc) (u : Nat) (w : Nat → Int) (c : Option Nat) (t : Int) : Int := match c with
  | none => if t = sz mc u then 0 else w t.toNat
  | some h => if (h : Int) < t ∧ t < uB mc u h then w t.toNat else -1
def cN (c : Option Nat) : Int32 := match c with | none => -1 | some h => nI h
theorem mo_wayTo {n : Nat} {mc : T_mc} {mq : T_mq} (hc : CodeOK mc) {u : Nat} (hu : u < nU mc) (hl : linesOK mc u) (hfr : mq_from_ mq = nI (fi mc u)) (hmn : mq_many mq = nI (sz mc u)) (c : Option Nat) (hcx : ∀ h, c = some h → h < sz mc u ∧ uN mc u h = 13) {x : Int32} (hx : 0 ≤ x.toInt ∧ x.toInt ≤ sz mc u) :
    ∃ v, r_Mo_wayTo n mc mq x (cN c) = some v ∧ v.toInt = wT mc u (wI (mq_ways mq)) c x.toInt := by
  have hf := fi_le hc hu
  have ex : x = nI x.toInt.toNat := i_nat hx.1
  have gw : gr (mq_ways mq) x 257 (fun v => some v) = some (mq_ways mq x.toInt.toNat) := by rw [ex, gr_nI (by omega) (by decide), ← ex]
  unfold r_Mo_wayTo
  cases c with
  | none =>
    show ∃ v, (if (-1 : Int32) < 0 then _ else _) = _ ∧ _
    rw [if_pos (by decide), hmn, gw]
    unfold wT
    dsimp only
    by_cases e : x = nI (sz mc u)
    · rw [if_pos e]; rw [i_eq, nI_t (by omega)] at e; exact ⟨0, rfl, by rw [if_pos e]; decide⟩
    · rw [if_neg e]; rw [i_eq, nI_t (by omega)] at e; exact ⟨_, rfl, by rw [if_neg e]; rfl⟩
  | some h =>
    obtain ⟨a1, a2⟩ := hcx h rfl
    show ∃ v, (if nI h < 0 then _ else (r_Mo_isInLoop n mc mq x (nI h)).bind _) = _ ∧ _
    rw [if_neg (lt0 (by omega)), mo_inL hc hu a1 hl a2 hfr, Option.bind_some, gw]
    unfold wT
    dsimp only
    by_cases e : inL mc u x.toInt h
    · rw [if_neg (by rw [tv_t e]; decide)]; exact ⟨_, rfl, by rw [if_pos (show (h : Int) < x.toInt ∧ x.toInt < uB mc u h from e)]; rfl⟩
    · rw [if_pos (tv_f e)]; exact ⟨_, rfl, by rw [if_neg (show ¬ ((h : Int) < x.toInt ∧ x.toInt < uB mc u h) from e)]; decide⟩
