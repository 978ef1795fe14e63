/-! steps: the class's walks and the reference's rows agree -/
theorem cap_c {x y : Int} (hy : 0 ≤ y) : cap (cap x + y) = cap (x + y) := by unfold cap; (repeat' split) <;> omega
theorem cap_m {x y : Int} (h : x ≤ y) : cap x ≤ cap y := by unfold cap; (repeat' split) <;> omega
theorem cap_0 {x : Int} (h : 0 ≤ x) : 0 ≤ cap x := by unfold cap; split <;> omega
theorem cap_a {x x' y : Int} (h : cap x ≤ cap x') (hy : 0 ≤ y) : cap (y + x) ≤ cap (y + x') := by unfold cap at *; (repeat' split at h) <;> (repeat' split) <;> omega
theorem cap_id {x : Int} (h : x ≤ 1000000001) : cap x = x := by unfold cap; split <;> omega
/-- rounds (or weights) that agree under the cap -/
def cq (x y : Int) : Prop := (x = -1 ∧ y = -1) ∨ (0 ≤ x ∧ 0 ≤ y ∧ cap x = cap y)
theorem cap_mul {n x y : Int} (hn : 0 ≤ n) (hx : 0 ≤ x) (hy : 0 ≤ y) (h : cap x = cap y) : cap (1 + n * x) = cap (1 + n * y) := by
  by_cases e : x = y
  · rw [e]
  · have big : 1000000001 ≤ x ∧ 1000000001 ≤ y := by unfold cap at h; (repeat' split at h) <;> omega
    by_cases z : n = 0
    · rw [z, Int.zero_mul, Int.zero_mul]
    · have p1 : 1 * x ≤ n * x := Int.mul_le_mul_of_nonneg_right (by omega) hx
      have p2 : 1 * y ≤ n * y := Int.mul_le_mul_of_nonneg_right (by omega) hy
      unfold cap; rw [if_neg (by omega), if_neg (by omega)]
theorem bh_cap {w x : Int} (hw : 0 ≤ w) (hx : 0 ≤ x) : 0 ≤ bh w x ∧ cap (bh w x) = cap (w + x) := by
  unfold bh bC cap; (repeat' split) <;> omega
theorem bh_neg {w x : Int} (h : bh w x ≠ -1) : 0 ≤ w ∧ 0 ≤ x := by
  unfold bh at h
  by_cases z : w < 0 ∨ x < 0
  · rw [if_pos z] at h; exact absurd rfl h
  · omega
theorem wV_in {T : Int → Int} : ∀ (l : List (Int × Int)) (x : Int × Int), x ∈ l → bh x.2 (T x.1) ≤ wV T l := by
  intro l
  induction l with
  | nil => intro x hx; exact absurd hx List.not_mem_nil
  | cons y l ih =>
    intro x hx
    show _ ≤ mx (bh y.2 (T y.1)) (wV T l)
    rcases List.mem_cons.mp hx with h | h
    · subst h; unfold mx; split <;> omega
    · have := ih x h; unfold mx; split <;> omega
theorem wV_or {T : Int → Int} : ∀ (l : List (Int × Int)), wV T l = -1 ∨ ∃ x, x ∈ l ∧ wV T l = bh x.2 (T x.1) := by
  intro l
  induction l with
  | nil => exact Or.inl rfl
  | cons y l ih =>
    show mx (bh y.2 (T y.1)) (wV T l) = -1 ∨ ∃ x, x ∈ y :: l ∧ mx (bh y.2 (T y.1)) (wV T l) = _
    by_cases c : bh y.2 (T y.1) ≤ wV T l
    · have e : mx (bh y.2 (T y.1)) (wV T l) = wV T l := if_pos c
      rw [e]
      rcases ih with h | ⟨x, h1, h2⟩
      · exact Or.inl h
      · exact Or.inr ⟨x, List.mem_cons_of_mem _ h1, h2⟩
    · exact Or.inr ⟨y, List.mem_cons_self, if_neg c⟩
/-- loops inside one another -/
theorem nest {mc : T_mc} {u j k : Nat} (hl : linesOK mc u) (ho : loopsOK mc u) (hj : j < sz mc u) (ej : uN mc u j = 13) (hk : k < sz mc u) (ek : uN mc u k = 13) (h1 : j < k) (h2 : k ≤ lst mc u j) : lst mc u k < lst mc u j := by
  have lj := lst_rg hl ho hj ej
  have lk := lst_rg hl ho hk ek
  have nj := next_ok ho hj ej
  have nk := next_ok ho hk ek
  have h := nk.2.2.2.2.2 j hj ej ⟨by omega, by omega⟩
  have h3 := h.2
  have : lst mc u k ≠ lst mc u j := fun z => by
    have a := nk.2.2.2.2.1; have b := nj.2.2.2.2.1
    have a' : uA mc u (lst mc u k) = k := a
    have b' : uA mc u (lst mc u j) = j := b
    rw [z, b'] at a'; omega
  omega
theorem back_ok {mc : T_mc} {u j : Nat} (hl : linesOK mc u) (ho : loopsOK mc u) (hj : j < sz mc u) (e : uN mc u j = 14) : ∃ k, k < j ∧ uN mc u k = 13 ∧ lst mc u k = j ∧ uB mc u k = j + 1 := by
  have t := tgt14 hl hj e
  have h := ho j hj
  unfold bad7 at h
  have z : uN mc u (uA mc u j).toNat = 13 ∧ uB mc u (uA mc u j).toNat = j + 1 := Classical.byContradiction fun z => h (Or.inr (Or.inr (Or.inl ⟨e, z⟩)))
  exact ⟨(uA mc u j).toNat, by omega, z.1, by unfold lst; omega, z.2⟩
theorem go_ok {mc : T_mc} {u j k : Nat} (ho : loopsOK mc u) (hj : j < sz mc u) (e : uN mc u j = 10 ∨ uN mc u j = 11) (hk : k < sz mc u) (ek : uN mc u k = 13) (h : uA mc u j = k ∨ inL mc u (uA mc u j) k) : inL mc u j k := by
  have z := ho j hj
  unfold bad7 at z
  exact Classical.byContradiction fun w => z (Or.inr (Or.inr (Or.inr ⟨e, k, Nat.zero_le _, hk, ek, h, w⟩)))
/-- nothing comes into a loop but from its 13 -/
theorem entry {mc : T_mc} {u j k t : Nat} {rd st : Nat → Int} (hl : linesOK mc u) (ho : loopsOK mc u) (hj : j < sz mc u) (hk : k < sz mc u) (ek : uN mc u k = 13) {x : Int × Int} (hx : x ∈ xE mc u rd st j) (et : (t : Int) = x.1) (h1 : k < t) (h2 : t ≤ lst mc u k) (h3 : j < k) : False := by
  have lk := lst_rg hl ho hk ek
  unfold xE at hx
  split at hx
  · rename_i c
    simp only [List.mem_cons, List.not_mem_nil, or_false] at hx; subst hx; dsimp only at et
    have := go_ok ho hj (Or.inl c) hk ek (Or.inr ⟨by omega, by omega⟩); have := this.1; omega
  split at hx
  · rename_i c
    simp only [List.mem_cons, List.not_mem_nil, or_false] at hx
    rcases hx with hx | hx <;> subst hx <;> dsimp only at et
    · have := go_ok ho hj (Or.inr c) hk ek (Or.inr ⟨by omega, by omega⟩); have := this.1; omega
    · omega
  split at hx
  · rename_i c
    split at hx
    · simp only [List.mem_cons, List.not_mem_nil, or_false] at hx; subst hx; dsimp only at et
      have lj := lst_rg hl ho hj c
      have := nest hl ho hj c hk ek h3 (by omega)
      omega
    · simp only [List.mem_cons, List.not_mem_nil, or_false] at hx; subst hx; dsimp only at et; omega
  split at hx
  · simp only [List.mem_cons, List.not_mem_nil, or_false] at hx; subst hx; dsimp only at et; omega
  split at hx
  · simp only [List.mem_cons, List.not_mem_nil, or_false] at hx; subst hx; dsimp only at et; omega
  split at hx
  · simp only [List.mem_cons, List.not_mem_nil, or_false] at hx; subst hx; dsimp only at et; omega
  · simp only [List.mem_cons, List.not_mem_nil, or_false] at hx; subst hx; dsimp only at et; omega
/-- what a loop's 13 weighs on the way in -/
def wIn (mc : T_mc) (u : Nat) (rd : Nat → Int) (k : Nat) : Int := if rd k = -1 then 1 else 1 + (uB mc u (k - 1) - 1) * rd k
theorem xE_13 {mc : T_mc} {u k : Nat} {rd st : Nat → Int} (e : uN mc u k = 13) : xE mc u rd st k = if uB mc u (k - 1) ≤ 0 then [(uB mc u k, 1)] else [((k : Int) + 1, wIn mc u rd k)] := by
  unfold xE wIn; rw [if_neg (by rw [e]; decide), if_neg (by rw [e]; decide), if_pos e]
theorem xE_14 {mc : T_mc} {u k : Nat} {rd st : Nat → Int} (e : uN mc u k = 14) : xE mc u rd st k = [((k : Int) + 1, 2)] := by
  unfold xE; rw [if_neg (by rw [e]; decide), if_neg (by rw [e]; decide), if_neg (by rw [e]; decide), if_pos e]
theorem wIn_0 {mc : T_mc} {u k : Nat} {rd : Nat → Int} (hr : -1 ≤ rd k) (hn : 0 < uB mc u (k - 1)) : 0 ≤ wIn mc u rd k := by
  unfold wIn
  split
  · omega
  · have : 0 ≤ (uB mc u (k - 1) - 1) * rd k := Int.mul_nonneg (by omega) (by omega)
    omega
theorem lW_ok {mc : T_mc} {u k : Nat} {rd st : Nat → Int} (hl : linesOK mc u) (ho : loopsOK mc u) (hk : k < sz mc u) (ek : uN mc u k = 13) (hrd : ∀ i, -1 ≤ rd i) (hst : ∀ i, -1 ≤ st i) : wInv mc u rd st (k + 1) (lst mc u k) (lst mc u k) (lW mc u rd st k) := by
  have lk := lst_rg hl ho hk ek
  exact wR_ok hl lk.1 (by omega) hrd hst
/-- a walk in a loop: not more than the way in and the loop's own walk -/
theorem in_le {mc : T_mc} {u a b k : Nat} {rd st : Nat → Int} {r : Nat → Int} (hl : linesOK mc u) (ho : loopsOK mc u) (hrd : ∀ i, -1 ≤ rd i) (hst : ∀ i, -1 ≤ st i) (hb : b ≤ sz mc u) (hr : wInv mc u rd st a b b r) (hk : k < sz mc u) (ek : uN mc u k = 13) (ha : a ≤ k) (hkb : lst mc u k < b) :
    ∀ (t : Nat), k < t → t ≤ lst mc u k → r t ≠ -1 → 0 < uB mc u (k - 1) ∧ r k ≠ -1 ∧ lW mc u rd st k t ≠ -1 ∧ r t ≤ cap (r k + wIn mc u rd k + lW mc u rd st k t) := by
  have lk := lst_rg hl ho hk ek
  obtain ⟨l1, l2, l3, l4, l5⟩ := lW_ok hl ho hk ek hrd hst
  obtain ⟨h1, h2, h3, h4, h5⟩ := hr
  intro t
  induction t using Nat.strongRecOn with
  | ind t ih =>
    intro q1 q2 q3
    obtain ⟨j, p1, p2, p3, p4, x, p5, p6, p7⟩ := h5 t (by omega) (by omega) q3
    have hj : j < sz mc u := by omega
    by_cases cj : k < j
    · have hjb := h3 j (by omega)
      obtain ⟨i1, i2, i3, i4⟩ := ih j p3 cj (by omega) p4
      have u1 := l4 j (by omega) (by omega) i3 x p5 t q2 p6
      have w := xE_w (hrd j) (fun _ => hst _) x p5
      have g1 := l3 j (by omega)
      have g2 := l3 t (by omega)
      have g3 := h3 k (by omega)
      have w0 := wIn_0 (mc := mc) (u := u) (hrd k) i1
      have z0 : 0 ≤ cap (lW mc u rd st k j + x.2) := cap_0 (by omega)
      refine ⟨i1, i2, by omega, ?_⟩
      rw [p7]
      have e1 : cap (r j + x.2) ≤ cap (cap (r k + wIn mc u rd k + lW mc u rd st k j) + x.2) := cap_m (by omega)
      rw [cap_c w] at e1
      have e2 : cap ((r k + wIn mc u rd k) + (lW mc u rd st k j + x.2)) ≤ cap ((r k + wIn mc u rd k) + lW mc u rd st k t) := cap_a (by rw [cap_id (x := lW mc u rd st k t) g2.2]; exact u1) (by omega)
      rw [show r k + wIn mc u rd k + lW mc u rd st k j + x.2 = r k + wIn mc u rd k + (lW mc u rd st k j + x.2) by omega] at e1
      omega
    · by_cases cj2 : j = k
      · subst cj2
        rw [xE_13 ek] at p5
        split at p5
        · simp only [List.mem_cons, List.not_mem_nil, or_false] at p5; subst p5; dsimp only at p6; omega
        · simp only [List.mem_cons, List.not_mem_nil, or_false] at p5; subst p5; dsimp only at p6 p7
          have et : t = j + 1 := by omega
          subst et
          refine ⟨by omega, p4, by rw [l1]; omega, ?_⟩
          rw [p7, l1]; exact cap_m (by omega)
      · exact (entry hl ho hj hk ek p5 p6 q1 q2 (by omega)).elim
/-- and not less -/
theorem in_ge {mc : T_mc} {u a b k : Nat} {rd st : Nat → Int} {r : Nat → Int} (hl : linesOK mc u) (ho : loopsOK mc u) (hrd : ∀ i, -1 ≤ rd i) (hst : ∀ i, -1 ≤ st i) (hr : wInv mc u rd st a b b r) (hk : k < sz mc u) (ek : uN mc u k = 13) (ha : a ≤ k) (hkb : lst mc u k < b) (hn : 0 < uB mc u (k - 1)) (hrk : r k ≠ -1) :
    ∀ (t : Nat), k < t → t ≤ lst mc u k → lW mc u rd st k t ≠ -1 → r t ≠ -1 ∧ cap (r k + wIn mc u rd k + lW mc u rd st k t) ≤ r t := by
  have lk := lst_rg hl ho hk ek
  obtain ⟨l1, l2, l3, l4, l5⟩ := lW_ok hl ho hk ek hrd hst
  obtain ⟨h1, h2, h3, h4, h5⟩ := hr
  have w0 := wIn_0 (mc := mc) (u := u) (hrd k) hn
  have g3 := h3 k (by omega)
  intro t
  induction t using Nat.strongRecOn with
  | ind t ih =>
    intro q1 q2 q3
    by_cases et : t = k + 1
    · subst et
      have u1 := h4 k ha (by omega) hrk ((k : Int) + 1, wIn mc u rd k) (by rw [xE_13 ek, if_neg (by omega)]; exact List.mem_cons_self) (k + 1) (by omega) (by dsimp only; omega)
      dsimp only at u1
      have z0 : 0 ≤ cap (r k + wIn mc u rd k) := cap_0 (by omega)
      rw [l1, Int.add_zero]
      exact ⟨by omega, u1⟩
    · obtain ⟨j, p1, p2, p3, p4, x, p5, p6, p7⟩ := l5 t q2 et q3
      obtain ⟨i1, i2⟩ := ih j p3 (by omega) (by omega) p4
      have u1 := h4 j (by omega) (by omega) i1 x p5 t (by omega) p6
      have w := xE_w (hrd j) (fun _ => hst _) x p5
      have g1 := l3 j (by omega)
      have g2 := h3 j (by omega)
      have z0 : 0 ≤ cap (r j + x.2) := cap_0 (by omega)
      refine ⟨by omega, ?_⟩
      have e1 : cap (cap (r k + wIn mc u rd k + lW mc u rd st k j) + x.2) ≤ cap (r j + x.2) := cap_m (by omega)
      rw [cap_c w] at e1
      have e2 : cap (r k + wIn mc u rd k + lW mc u rd st k t) = cap (r k + wIn mc u rd k + lW mc u rd st k j + x.2) := by
        rw [p7, Int.add_comm (r k + wIn mc u rd k), cap_c (by omega)]
        congr 1; omega
      omega
