/-! steps (fault 11): the class's walk, one instruction -/
theorem l_mul {x y : Int64} (h1 : -9223372036854775808 ≤ x.toInt * y.toInt) (h2 : x.toInt * y.toInt < 9223372036854775808) : (x * y).toInt = x.toInt * y.toInt := by
  rw [Int64.toInt_mul]; exact Int.bmod_eq_of_le (by omega) (by omega)
/-- the cap -/
def cap (v : Int) : Int := if v ≤ 1000000000 then v else 1000000001
theorem cap_le (v : Int) : cap v ≤ 1000000001 := by unfold cap; split <;> omega
def mx (a b : Int) : Int := if a ≤ b then b else a
theorem updL_at {f : Nat → Int64} {k : Nat} {v : Int64} : vp_updL f k v k = v := if_pos rfl
theorem updL_ne {f : Nat → Int64} {k j : Nat} {v : Int64} (h : j ≠ k) : vp_updL f k v j = f j := if_neg h
def rch (wa : T_wa) (i : Nat) : Int := (wa_reached wa i).toInt
/-- what a row of longs becomes where v comes to t (t not beyond b) -/
def rT (b : Nat) (r : Nat → Int) (t : Int) (v : Int) : Nat → Int := fun i => if (i : Int) = t ∧ i ≤ b then mx (r i) (cap v) else r i
theorem wa_reach {n : Nat} {wa : T_wa} {b : Nat} (hb : b ≤ 256) (he : wa_end_ wa = nI b) (hr : ∀ i, i < 257 → rch wa i ≤ 1000000001) {x : Int32} {v : Int64} :
    ∃ g, r_Wa_reach n wa x v = some (wa_reached_s wa g) ∧ ∀ i, i < 257 → (g i).toInt = rT b (rch wa) x.toInt v.toInt i := by
  unfold r_Wa_reach
  rw [he]
  have same : ¬ (0 ≤ x.toInt ∧ x.toInt ≤ b) → ∀ i, i < 257 → (wa_reached wa i).toInt = rT b (rch wa) x.toInt v.toInt i := fun h i _ => by
    unfold rT; rw [if_neg (by omega)]; rfl
  by_cases c1 : x < 0
  · rw [if_pos c1]; rw [i_lt, k0] at c1; exact ⟨wa_reached wa, rfl, same (by omega)⟩
  rw [if_neg c1]; rw [i_lt, k0] at c1
  by_cases c2 : nI b < x
  · rw [if_pos c2]; rw [i_lt, nI_t (by omega)] at c2; exact ⟨wa_reached wa, rfl, same (by omega)⟩
  rw [if_neg c2]; rw [i_lt, nI_t (by omega)] at c2
  have ex : x = nI x.toInt.toNat := i_nat (by omega)
  have hx : x.toInt.toNat < 257 := by omega
  rw [if_neg (by rw [i_le]; show ¬ (257 : Int) ≤ _; omega), ex, gr_nI hx (by decide), ga_nI hx (by decide), ga_nI hx (by decide), nI_clamp (by omega), nI_t (by omega), Int.toNat_of_nonneg (by omega)]
  have hrx := hr _ hx
  have old : v.toInt ≤ rch wa x.toInt.toNat → ∀ i, i < 257 → (wa_reached wa i).toInt = rT b (rch wa) x.toInt v.toInt i := fun h i _ => by
    unfold rT
    by_cases z : (i : Int) = x.toInt ∧ i ≤ b
    · have ei : i = x.toInt.toNat := by omega
      rw [if_pos z]; show rch wa i = _
      subst ei
      unfold mx cap
      (repeat' split) <;> omega
    · rw [if_neg z]; rfl
  have new : ∀ w : Int64, rch wa x.toInt.toNat < v.toInt → w.toInt = cap v.toInt → ∀ i, i < 257 → (vp_updL (wa_reached wa) x.toInt.toNat w i).toInt = rT b (rch wa) x.toInt v.toInt i := fun w h hw i _ => by
    unfold rT
    by_cases z : i = x.toInt.toNat
    · rw [z, updL_at, if_pos (by omega), hw]
      unfold mx cap
      (repeat' split) <;> omega
    · rw [updL_ne z, if_neg (by omega)]; rfl
  by_cases c3 : lg_cmp v (wa_reached wa x.toInt.toNat) ≤ 0
  · rw [if_pos c3]; rw [lc_le] at c3; exact ⟨wa_reached wa, rfl, old c3⟩
  rw [if_neg c3]; rw [lc_le] at c3
  have c3' : rch wa x.toInt.toNat < v.toInt := by unfold rch; omega
  by_cases c4 : lg_cmp v 1000000000 ≤ 0
  · rw [if_pos c4]; rw [lc_le, K1000000000] at c4
    exact ⟨_, rfl, new v c3' (by unfold cap; rw [if_pos c4])⟩
  · rw [if_neg c4]; rw [lc_le, K1000000000] at c4
    exact ⟨_, rfl, new 1000000001 c3' (by unfold cap; rw [if_neg c4]; decide)⟩
theorem rT_le {b : Nat} {r : Nat → Int} {t v : Int} (h : ∀ i, i < 257 → r i ≤ 1000000001) : ∀ i, i < 257 → rT b r t v i ≤ 1000000001 := fun i hi => by
  unfold rT
  split
  · have := cap_le v; have := h i hi; unfold mx; split <;> omega
  · exact h i hi
/-- where the class's walk goes from an instruction, and with which weight -/
def xE (mc : T_mc) (u : Nat) (rd st : Nat → Int) (k : Nat) : List (Int × Int) :=
  if uN mc u k = 10 then [(uA mc u k, 1)] else if uN mc u k = 11 then [(uA mc u k, 1), ((k : Int) + 1, 1)]
  else if uN mc u k = 13 then (if uB mc u (k - 1) ≤ 0 then [(uB mc u k, 1)] else [((k : Int) + 1, if rd k = -1 then 1 else 1 + (uB mc u (k - 1) - 1) * rd k)])
  else if uN mc u k = 14 then [((k : Int) + 1, 2)] else if uN mc u k = 15 ∨ uN mc u k = 16 then [((k : Int) + 1, 1 + st (uA mc u k).toNat)]
  else if uN mc u k = 18 then [((sz mc u : Int), 1)] else [((k : Int) + 1, 1)]
def rL (b : Nat) (v : Int) : List (Int × Int) → (Nat → Int) → Nat → Int
  | [], r => r
  | (t, w) :: l, r => rL b v l (rT b r t (v + w))
