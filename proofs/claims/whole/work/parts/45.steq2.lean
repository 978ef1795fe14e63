/-! steps: a walk's end and a row's beginning agree -/
theorem e_xm {mc : T_mc} {u j : Nat} {rd st rd' st' : Nat → Int} (hl : linesOK mc u) (ho : loopsOK mc u) (hj : j < sz mc u) (hst : ∀ a, a < u → st a = st' a ∧ 0 ≤ st a) (h14 : uN mc u j ≠ 14) (hq : uN mc u j = 13 → cq (rd j) (rd' j)) {x : Int × Int} (hx : x ∈ xE mc u rd st j) : ∃ w, (x.1, w) ∈ mE mc u rd' st' j ∧ 0 ≤ w ∧ 0 ≤ x.2 ∧ cap w = cap x.2 := by
  unfold xE at hx
  unfold mE
  by_cases c10 : uN mc u j = 10
  · rw [if_pos c10] at hx ⊢; simp only [List.mem_cons, List.not_mem_nil, or_false] at hx; subst hx
    exact ⟨1, List.mem_cons_self, by omega, by dsimp only; omega, rfl⟩
  rw [if_neg c10] at hx ⊢
  by_cases c11 : uN mc u j = 11
  · rw [if_pos c11] at hx ⊢; simp only [List.mem_cons, List.not_mem_nil, or_false] at hx
    rcases hx with hx | hx <;> subst hx
    · exact ⟨1, List.mem_cons_of_mem _ List.mem_cons_self, by omega, by dsimp only; omega, rfl⟩
    · exact ⟨1, List.mem_cons_self, by omega, by dsimp only; omega, rfl⟩
  rw [if_neg c11] at hx ⊢
  by_cases c13 : uN mc u j = 13
  · have nx := next_ok ho hj c13
    have cr := count_rg hl (show j - 1 < sz mc u by omega) nx.2.1
    rw [if_pos c13] at hx ⊢
    by_cases cz : uB mc u (j - 1) ≤ 0
    · rw [if_pos cz] at hx ⊢; simp only [List.mem_cons, List.not_mem_nil, or_false] at hx; subst hx
      exact ⟨1, List.mem_cons_self, by omega, by dsimp only; omega, rfl⟩
    · rw [if_neg cz] at hx ⊢; simp only [List.mem_cons, List.not_mem_nil, or_false] at hx; subst hx
      dsimp only
      rcases hq c13 with ⟨h1, h2⟩ | ⟨h1, h2, h3⟩
      · rw [if_pos h1, if_pos h2]; exact ⟨1, List.mem_cons_self, by omega, by omega, rfl⟩
      · rw [if_neg (by omega), if_neg (by omega)]
        have p1 : 0 ≤ (uB mc u (j - 1) - 1) * rd j := Int.mul_nonneg (by omega) h1
        have p2 : 0 ≤ (uB mc u (j - 1) - 1) * rd' j := Int.mul_nonneg (by omega) h2
        exact ⟨_, List.mem_cons_of_mem _ List.mem_cons_self, by omega, by omega, (cap_mul (by omega) h1 h2 h3).symm⟩
  rw [if_neg c13, if_neg h14] at hx ⊢
  by_cases c15 : uN mc u j = 15 ∨ uN mc u j = 16
  · have cr := call_rg hl hj c15
    obtain ⟨s1, s2⟩ := hst (uA mc u j).toNat (by omega)
    rw [if_pos c15] at hx ⊢; simp only [List.mem_cons, List.not_mem_nil, or_false] at hx; subst hx
    rw [← s1]
    exact ⟨_, List.mem_cons_self, by omega, by dsimp only; omega, rfl⟩
  rw [if_neg c15] at hx ⊢
  by_cases c18 : uN mc u j = 18
  · rw [if_pos c18] at hx ⊢; simp only [List.mem_cons, List.not_mem_nil, or_false] at hx; subst hx
    exact ⟨1, List.mem_cons_self, by omega, by dsimp only; omega, rfl⟩
  rw [if_neg c18] at hx ⊢; simp only [List.mem_cons, List.not_mem_nil, or_false] at hx; subst hx
  exact ⟨1, List.mem_cons_self, by omega, by dsimp only; omega, rfl⟩
theorem e_mx {mc : T_mc} {u j : Nat} {rd st rd' st' : Nat → Int} (hl : linesOK mc u) (ho : loopsOK mc u) (hj : j < sz mc u) (hst : ∀ a, a < u → st a = st' a ∧ 0 ≤ st a) (hq : uN mc u j = 13 → cq (rd j) (rd' j)) {x : Int × Int} (hx : x ∈ mE mc u rd' st' j) :
    (∃ w, (x.1, w) ∈ xE mc u rd st j ∧ 0 ≤ w ∧ 0 ≤ x.2 ∧ cap w = cap x.2) ∨ (uN mc u j = 13 ∧ 0 < uB mc u (j - 1) ∧ 0 ≤ rd j ∧ x.1 = uB mc u j ∧ 0 ≤ x.2 ∧ cap x.2 = cap (1 + uB mc u (j - 1) * rd j)) := by
  unfold mE at hx
  by_cases c10 : uN mc u j = 10
  · rw [if_pos c10] at hx; simp only [List.mem_cons, List.not_mem_nil, or_false] at hx; subst hx
    refine Or.inl ⟨1, ?_, by omega, by dsimp only; omega, rfl⟩
    unfold xE; rw [if_pos c10]; exact List.mem_cons_self
  rw [if_neg c10] at hx
  by_cases c11 : uN mc u j = 11
  · rw [if_pos c11] at hx; simp only [List.mem_cons, List.not_mem_nil, or_false] at hx
    rcases hx with hx | hx <;> subst hx <;> refine Or.inl ⟨1, ?_, by omega, by dsimp only; omega, rfl⟩ <;> (unfold xE; rw [if_neg c10, if_pos c11])
    · exact List.mem_cons_of_mem _ List.mem_cons_self
    · exact List.mem_cons_self
  rw [if_neg c11] at hx
  by_cases c13 : uN mc u j = 13
  · have nx := next_ok ho hj c13
    have cr := count_rg hl (show j - 1 < sz mc u by omega) nx.2.1
    rw [xE_13 c13]
    unfold wIn
    rw [if_pos c13] at hx
    by_cases cz : uB mc u (j - 1) ≤ 0
    · rw [if_pos cz] at hx ⊢; simp only [List.mem_cons, List.not_mem_nil, or_false] at hx; subst hx
      exact Or.inl ⟨1, List.mem_cons_self, by omega, by dsimp only; omega, rfl⟩
    · rw [if_neg cz] at hx ⊢
      rcases hq c13 with ⟨h1, h2⟩ | ⟨h1, h2, h3⟩
      · rw [if_pos h1]; rw [if_pos h2] at hx; simp only [List.mem_cons, List.not_mem_nil, or_false] at hx; subst hx
        exact Or.inl ⟨1, List.mem_cons_self, by omega, by dsimp only; omega, rfl⟩
      · rw [if_neg (show ¬ rd j = -1 by omega)]; rw [if_neg (by omega)] at hx; simp only [List.mem_cons, List.not_mem_nil, or_false] at hx
        have p1 : 0 ≤ (uB mc u (j - 1) - 1) * rd j := Int.mul_nonneg (by omega) h1
        have p2 : 0 ≤ (uB mc u (j - 1) - 1) * rd' j := Int.mul_nonneg (by omega) h2
        have p3 : 0 ≤ uB mc u (j - 1) * rd' j := Int.mul_nonneg (by omega) h2
        rcases hx with hx | hx <;> subst hx <;> dsimp only
        · exact Or.inr ⟨c13, by omega, h1, rfl, by omega, (cap_mul (by omega) h1 h2 h3).symm⟩
        · exact Or.inl ⟨_, List.mem_cons_self, by omega, by omega, cap_mul (by omega) h1 h2 h3⟩
  rw [if_neg c13] at hx
  by_cases c14 : uN mc u j = 14
  · rw [if_pos c14] at hx; exact absurd hx List.not_mem_nil
  rw [if_neg c14] at hx
  unfold xE
  rw [if_neg c10, if_neg c11, if_neg c13, if_neg c14]
  by_cases c15 : uN mc u j = 15 ∨ uN mc u j = 16
  · have cr := call_rg hl hj c15
    obtain ⟨s1, s2⟩ := hst (uA mc u j).toNat (by omega)
    rw [if_pos c15] at hx ⊢; simp only [List.mem_cons, List.not_mem_nil, or_false] at hx; subst hx
    rw [s1] at s2 ⊢
    exact Or.inl ⟨_, List.mem_cons_self, by omega, by dsimp only; omega, rfl⟩
  rw [if_neg c15] at hx ⊢
  by_cases c18 : uN mc u j = 18
  · rw [if_pos c18] at hx ⊢; simp only [List.mem_cons, List.not_mem_nil, or_false] at hx; subst hx
    exact Or.inl ⟨1, List.mem_cons_self, by omega, by dsimp only; omega, rfl⟩
  rw [if_neg c18] at hx ⊢; simp only [List.mem_cons, List.not_mem_nil, or_false] at hx; subst hx
  exact Or.inl ⟨1, List.mem_cons_self, by omega, by dsimp only; omega, rfl⟩
/-- a backward row over [a, b], that ends with e at b -/
def BackR (mc : T_mc) (u : Nat) (rd st : Nat → Int) (a b : Nat) (e : Int) (B : Int → Int) : Prop :=
  (∀ t : Nat, a ≤ t → t < b → uN mc u t ≠ 14 → B t = wV B (mE mc u rd st t)) ∧
  (∀ t : Nat, a ≤ t → t < b → uN mc u t = 14 → B t = -1) ∧
  (B b = e) ∧
  (∀ t : Int, a ≤ t → t ≤ sz mc u → B t ≠ -1 → t ≤ b) ∧
  (∀ t : Int, a ≤ t → t ≤ sz mc u → -1 ≤ B t) ∧
  (∀ k : Nat, k < sz mc u → uN mc u k = 13 → a ≤ lst mc u k → lst mc u k < b → a ≤ k)
theorem BackR.bt {mc : T_mc} {u : Nat} {rd st : Nat → Int} {a b : Nat} {e : Int} {B : Int → Int} (h : BackR mc u rd st a b e B) : ∀ t : Nat, a ≤ t → t < b → uN mc u t ≠ 14 → B t = wV B (mE mc u rd st t) := h.1
theorem BackR.b14 {mc : T_mc} {u : Nat} {rd st : Nat → Int} {a b : Nat} {e : Int} {B : Int → Int} (h : BackR mc u rd st a b e B) : ∀ t : Nat, a ≤ t → t < b → uN mc u t = 14 → B t = -1 := h.2.1
theorem BackR.be {mc : T_mc} {u : Nat} {rd st : Nat → Int} {a b : Nat} {e : Int} {B : Int → Int} (h : BackR mc u rd st a b e B) : B b = e := h.2.2.1
theorem BackR.bo {mc : T_mc} {u : Nat} {rd st : Nat → Int} {a b : Nat} {e : Int} {B : Int → Int} (h : BackR mc u rd st a b e B) : ∀ t : Int, a ≤ t → t ≤ sz mc u → B t ≠ -1 → t ≤ b := h.2.2.2.1
theorem BackR.br {mc : T_mc} {u : Nat} {rd st : Nat → Int} {a b : Nat} {e : Int} {B : Int → Int} (h : BackR mc u rd st a b e B) : ∀ t : Int, a ≤ t → t ≤ sz mc u → -1 ≤ B t := h.2.2.2.2.1
theorem BackR.cl {mc : T_mc} {u : Nat} {rd st : Nat → Int} {a b : Nat} {e : Int} {B : Int → Int} (h : BackR mc u rd st a b e B) : ∀ k : Nat, k < sz mc u → uN mc u k = 13 → a ≤ lst mc u k → lst mc u k < b → a ≤ k := h.2.2.2.2.2
theorem rd_lw {mc : T_mc} {u k : Nat} {rd st : Nat → Int} (ok : rd k = rdV (lW mc u rd st k (lst mc u k))) (h : lW mc u rd st k (lst mc u k) ≠ -1) : rd k = lW mc u rd st k (lst mc u k) + 2 := by
  unfold rdV at ok; rw [if_neg h] at ok; exact ok
theorem loop_w {mc : T_mc} {u k : Nat} {rd st : Nat → Int} (h : rd k = lW mc u rd st k (lst mc u k) + 2) (h0 : rd k ≠ -1) : wIn mc u rd k + lW mc u rd st k (lst mc u k) + 2 = 1 + uB mc u (k - 1) * rd k := by
  unfold wIn; rw [if_neg h0]
  have : (uB mc u (k - 1) - 1) * rd k = uB mc u (k - 1) * rd k - rd k := by rw [Int.sub_mul, Int.one_mul]
  omega
section rows
variable {mc : T_mc} {u a b : Nat} {rd st rd' st' : Nat → Int} {r : Nat → Int} {e : Int} {B : Int → Int}
theorem row_le (hl : linesOK mc u) (ho : loopsOK mc u) (hrd : ∀ i, -1 ≤ rd i) (hst0 : ∀ i, -1 ≤ st i) (hb : b ≤ sz mc u) (hr : wInv mc u rd st a b b r) (hst : ∀ a, a < u → st a = st' a ∧ 0 ≤ st a) (hB : BackR mc u rd' st' a b e B)
    (hq : ∀ k, a ≤ k → k < b → uN mc u k = 13 → cq (rd k) (rd' k) ∧ rd k = rdV (lW mc u rd st k (lst mc u k))) :
    ∀ t : Nat, a ≤ t → t ≤ b → r t ≠ -1 → B t ≠ -1 → B a ≠ -1 ∧ cap (r t + B t) ≤ cap (B a) := by
  have hr' := hr
  obtain ⟨h1, h2, h3, h4, h5⟩ := hr
  intro t
  induction t using Nat.strongRecOn with
  | ind t ih =>
    intro q1 q2 q3 q4
    by_cases ea : t = a
    · rw [ea] at q4 ⊢; rw [h1, Int.zero_add]; exact ⟨q4, Int.le_refl _⟩
    obtain ⟨j, p1, p2, p3, p4, x, p5, p6, p7⟩ := h5 t q2 ea q3
    have hj : j < sz mc u := by omega
    have bt0 := hB.br t (by omega) (by omega)
    by_cases c14 : uN mc u j = 14
    · obtain ⟨k, k1, k2, k3, k4⟩ := back_ok hl ho hj c14
      have hks : k < sz mc u := by omega
      have ak := hB.cl k hks k2 (by omega) (by omega)
      rw [xE_14 c14] at p5; simp only [List.mem_cons, List.not_mem_nil, or_false] at p5; subst p5
      dsimp only at p6 p7
      obtain ⟨i1, i2, i3, i4⟩ := in_le hl ho hrd hst0 hb hr' hks k2 ak (by omega) j k1 (by omega) p4
      rw [← k3] at i3 i4
      have okk := (hq k ak (by omega) k2).2
      have rk := rd_lw okk i3
      have g1 := (lW_ok hl ho hks k2 hrd hst0).2.2.1 (lst mc u k) (Nat.le_refl _)
      have lw := loop_w rk (by omega)
      obtain ⟨z1, z2⟩ | ⟨z1, z2, z3⟩ := (hq k ak (by omega) k2).1
      · omega
      have nx := next_ok ho hks k2
      have mem : (uB mc u k, 1 + uB mc u (k - 1) * rd' k) ∈ mE mc u rd' st' k := by
        unfold mE; rw [if_neg (by rw [k2]; decide), if_neg (by rw [k2]; decide), if_pos k2, if_neg (by omega), if_neg (by omega)]; exact List.mem_cons_self
      have up := wV_in (T := B) _ _ mem
      rw [← hB.bt k ak (by omega) (by rw [k2]; decide)] at up
      dsimp only at up
      rw [k4, show (j : Int) + 1 = t by omega] at up
      have pm : 0 ≤ uB mc u (k - 1) * rd' k := Int.mul_nonneg (by omega) z2
      have pm2 : 0 ≤ uB mc u (k - 1) * rd k := Int.mul_nonneg (by omega) z1
      obtain ⟨y1, y2⟩ := bh_cap (w := 1 + uB mc u (k - 1) * rd' k) (x := B t) (by omega) (by omega)
      have g3 := h3 k (by omega)
      obtain ⟨s1, s2⟩ := ih k (by omega) ak (by omega) i2 (by omega)
      refine ⟨s1, Int.le_trans ?_ s2⟩
      have e1 : cap (r t + B t) = cap (r j + 2 + B t) := by rw [p7, cap_c (by omega)]
      rw [k3] at i4
      have e2 : cap (r j + 2 + B t) ≤ cap (cap (r k + wIn mc u rd k + lW mc u rd st k j) + (2 + B t)) := cap_m (by omega)
      rw [cap_c (by omega)] at e2
      rw [k3] at lw
      rw [show r k + wIn mc u rd k + lW mc u rd st k j + (2 + B t) = (r k + B t) + (1 + uB mc u (k - 1) * rd k) by omega] at e2
      have e3 : cap ((r k + B t) + (1 + uB mc u (k - 1) * rd k)) ≤ cap ((r k + B t) + (1 + uB mc u (k - 1) * rd' k)) := cap_a (by rw [cap_mul (by omega) z1 z2 z3]; exact Int.le_refl _) (by omega)
      have e4 : cap (r k + (1 + uB mc u (k - 1) * rd' k + B t)) ≤ cap (r k + B k) := cap_a (by rw [← y2]; exact cap_m up) (by omega)
      rw [show r k + (1 + uB mc u (k - 1) * rd' k + B t) = (r k + B t) + (1 + uB mc u (k - 1) * rd' k) by omega] at e4
      omega
    · obtain ⟨w, w1, w2, w3, w4⟩ := e_xm hl ho hj hst c14 (fun z => (hq j p1 (by omega) z).1) p5
      have up := wV_in (T := B) _ _ w1
      rw [← hB.bt j p1 (by omega) c14] at up
      dsimp only at up
      rw [← p6] at up
      obtain ⟨y1, y2⟩ := bh_cap (w := w) (x := B t) w2 (by omega)
      have g3 := h3 j (by omega)
      obtain ⟨s1, s2⟩ := ih j p3 p1 (by omega) p4 (by omega)
      refine ⟨s1, Int.le_trans ?_ s2⟩
      have e1 : cap (r t + B t) = cap (r j + x.2 + B t) := by rw [p7, cap_c (by omega)]
      have e3 : cap ((r j + B t) + x.2) ≤ cap ((r j + B t) + w) := cap_a (by rw [w4]; exact Int.le_refl _) (by omega)
      have e4 : cap (r j + (w + B t)) ≤ cap (r j + B j) := cap_a (by rw [← y2]; exact cap_m up) (by omega)
      rw [show r j + (w + B t) = (r j + B t) + w by omega] at e4
      rw [show r j + x.2 + B t = (r j + B t) + x.2 by omega] at e1
      omega
theorem row_ge (hl : linesOK mc u) (ho : loopsOK mc u) (hrd : ∀ i, -1 ≤ rd i) (hst0 : ∀ i, -1 ≤ st i) (hb : b ≤ sz mc u) (hr : wInv mc u rd st a b b r) (hst : ∀ a, a < u → st a = st' a ∧ 0 ≤ st a) (hB : BackR mc u rd' st' a b e B)
    (hq : ∀ k, a ≤ k → k < b → uN mc u k = 13 → cq (rd k) (rd' k) ∧ rd k = rdV (lW mc u rd st k (lst mc u k))) :
    ∀ (m t : Nat), t + m = b → a ≤ t → r t ≠ -1 → B t ≠ -1 → r b ≠ -1 ∧ cap (r t + B t) ≤ cap (r b + e) := by
  have hr' := hr
  obtain ⟨h1, h2, h3, h4, h5⟩ := hr
  intro m
  induction m using Nat.strongRecOn with
  | ind m ih =>
    intro t q1 q2 q3 q4
    by_cases eb : t = b
    · rw [eb] at q3 q4 ⊢; rw [hB.be]; exact ⟨q3, Int.le_refl _⟩
    have ht : t < sz mc u := by omega
    have c14 : uN mc u t ≠ 14 := fun z => q4 (hB.b14 t q2 (by omega) z)
    have eB := hB.bt t q2 (by omega) c14
    rcases wV_or (T := B) (mE mc u rd' st' t) with z | ⟨x, x1, x2⟩
    · exact absurd (eB.trans z) q4
    rw [← eB] at x2
    have fw := mE_fw hl ht x x1
    have ng := bh_neg (by rw [← x2]; exact q4)
    have xb := hB.bo x.1 (by omega) fw.2 (by omega)
    obtain ⟨y1, y2⟩ := bh_cap ng.1 ng.2
    rw [← x2] at y1 y2
    have g3 := h3 t (by omega)
    obtain ⟨t', et'⟩ : ∃ t' : Nat, (t' : Int) = x.1 := ⟨x.1.toNat, by omega⟩
    have g4 := h3 t' (by omega)
    -- from a number at t'
    have fin : cap (r t + x.2) ≤ r t' → r b ≠ -1 ∧ cap (r t + B t) ≤ cap (r b + e) := fun le => by
      have z0 : 0 ≤ cap (r t + x.2) := cap_0 (by omega)
      obtain ⟨s1, s2⟩ := ih (b - t') (by omega) t' (by omega) (by omega) (by omega) (by rw [et']; omega)
      refine ⟨s1, Int.le_trans ?_ s2⟩
      have e1 : cap (r t + B t) ≤ cap (r t + (x.2 + B x.1)) := cap_a (by rw [y2]; exact Int.le_refl _) (by omega)
      have e2 : cap (cap (r t + x.2) + B x.1) ≤ cap (r t' + B x.1) := cap_m (by omega)
      rw [cap_c ng.2] at e2
      rw [et']
      rw [show r t + (x.2 + B x.1) = r t + x.2 + B x.1 by omega] at e1
      omega
    rcases e_mx hl ho ht hst (fun z => (hq t q2 (by omega) z).1) x1 with ⟨w, w1, w2, w3, w4⟩ | ⟨n1, n2, n3, n4, n5, n6⟩
    · refine fin ?_
      have := h4 t q2 (by omega) q3 _ w1 t' (by omega) et'
      dsimp only at this
      have e3 : cap (r t + x.2) ≤ cap (r t + w) := cap_a (by rw [w4]; exact Int.le_refl _) (by omega)
      omega
    · refine fin ?_
      have lk := lst_rg hl ho ht n1
      have okk := (hq t q2 (by omega) n1).2
      have nm : lW mc u rd st t (lst mc u t) ≠ -1 := fun z => by unfold rdV at okk; rw [if_pos z] at okk; omega
      have rk := rd_lw okk nm
      have lw := loop_w rk (by omega)
      obtain ⟨i1, i2⟩ := in_ge hl ho hrd hst0 hr' ht n1 q2 (by omega) n2 q3 (lst mc u t) (by omega) (Nat.le_refl _) nm
      have nx := next_ok ho ht n1
      have e14 : uN mc u (lst mc u t) = 14 := nx.2.2.2.1
      have up := h4 (lst mc u t) (by omega) (by omega) i1 ((lst mc u t : Int) + 1, 2) (by rw [xE_14 e14]; exact List.mem_cons_self) t' (by omega) (by dsimp only; omega)
      dsimp only at up
      have e1 : cap (cap (r t + wIn mc u rd t + lW mc u rd st t (lst mc u t)) + 2) ≤ cap (r (lst mc u t) + 2) := cap_m (by omega)
      rw [cap_c (by omega), show r t + wIn mc u rd t + lW mc u rd st t (lst mc u t) + 2 = r t + (1 + uB mc u (t - 1) * rd t) by omega] at e1
      have e3 : cap (r t + x.2) ≤ cap (r t + (1 + uB mc u (t - 1) * rd t)) := cap_a (by rw [n6]; exact Int.le_refl _) (by omega)
      omega
theorem row_eq (hl : linesOK mc u) (ho : loopsOK mc u) (hrd : ∀ i, -1 ≤ rd i) (hst0 : ∀ i, -1 ≤ st i) (hab : a ≤ b) (hb : b ≤ sz mc u) (hr : wInv mc u rd st a b b r) (hst : ∀ a, a < u → st a = st' a ∧ 0 ≤ st a) (he : 0 ≤ e) (hB : BackR mc u rd' st' a b e B)
    (hq : ∀ k, a ≤ k → k < b → uN mc u k = 13 → cq (rd k) (rd' k) ∧ rd k = rdV (lW mc u rd st k (lst mc u k))) :
    (r b = -1 ∧ B a = -1) ∨ (0 ≤ r b ∧ 0 ≤ B a ∧ cap (r b + e) = cap (B a)) := by
  have r1 := row_le hl ho hrd hst0 hb hr hst hB hq b hab (Nat.le_refl _)
  have r2 := row_ge hl ho hrd hst0 hb hr hst hB hq (b - a) a (by omega) (Nat.le_refl _) (by rw [hr.1]; decide)
  rw [hr.1, Int.zero_add] at r2
  rw [hB.be] at r1
  have g1 := hr.2.2.1 b (Nat.le_refl _)
  have g2 := hB.br a (Int.le_refl _) (by omega)
  by_cases c : r b = -1
  · refine Or.inl ⟨c, Classical.byContradiction fun z => (r2 z).1 c⟩
  · obtain ⟨x1, x2⟩ := r1 c (by omega)
    exact Or.inr ⟨by omega, by omega, Int.le_antisymm x2 (r2 x1).2⟩
end rows
