/-! steps: rounds agree, and the steps of a unit -/
theorem back_some {mc : T_mc} {u h : Nat} {rd st : Nat → Int} {W : Nat → Int} (hl : linesOK mc u) (ho : loopsOK mc u) (hh : h < sz mc u) (eh : uN mc u h = 13) (hW : bRow mc u rd st (some h) W (h + 1) (lst mc u h + 1)) : BackR mc u rd st (h + 1) (lst mc u h) 1 (wT mc u W (some h)) := by
  have lk := lst_rg hl ho hh eh
  have nx := next_ok ho hh eh
  have at_ : ∀ t : Nat, h + 1 ≤ t → t ≤ lst mc u h → wT mc u W (some h) t = wayV mc u rd st (wT mc u W (some h)) (some h) t := fun t a b => by
    rw [← hW t a (by omega)]
    show (if (h : Int) < t ∧ (t : Int) < uB mc u h then W (t : Int).toNat else -1) = _
    rw [if_pos (by omega), Int.toNat_natCast]
  refine ⟨fun t a b c => ?_, fun t a b c => ?_, ?_, fun t a b c => ?_, fun t a b => ?_, fun k a b c d => ?_⟩
  · rw [at_ t a (by omega)]; exact if_neg c
  · rw [at_ t a (by omega)]; unfold wayV; rw [if_pos c, if_neg]; rintro ⟨h', e1, e2⟩; cases e1; omega
  · rw [at_ _ (by omega) (Nat.le_refl _)]; unfold wayV; rw [if_pos (show uN mc u (lst mc u h) = 14 from nx.2.2.2.1), if_pos ⟨h, rfl, rfl⟩]
  · refine Classical.byContradiction fun z => c ?_
    exact if_neg (by omega)
  · by_cases z : t ≤ lst mc u h
    · have := at_ t.toNat (by omega) (by omega)
      rw [show ((t.toNat : Nat) : Int) = t by omega] at this
      rw [this]; exact wayV_rg.1
    · rw [show wT mc u W (some h) t = -1 from if_neg (by omega)]; omega
  · by_cases z : h < k
    · exact z
    · have lk2 := lst_rg hl ho a b
      by_cases z2 : k = h
      · subst z2; omega
      · have := nest hl ho a b hh eh (by omega) (by omega); omega
theorem back_none {mc : T_mc} {u : Nat} {rd st : Nat → Int} {W : Nat → Int} (hW : bRow mc u rd st none W 0 (sz mc u)) : BackR mc u rd st 0 (sz mc u) 0 (wT mc u W none) := by
  have at_ : ∀ t : Nat, t < sz mc u → wT mc u W none t = wayV mc u rd st (wT mc u W none) none t := fun t a => by
    rw [← hW t (Nat.zero_le _) a]
    show (if (t : Int) = sz mc u then 0 else W (t : Int).toNat) = _
    rw [if_neg (by omega), Int.toNat_natCast]
  refine ⟨fun t a b c => ?_, fun t a b c => ?_, if_pos rfl, fun t a b c => b, fun t a b => ?_, fun k a b c d => Nat.zero_le _⟩
  · rw [at_ t b]; exact if_neg c
  · rw [at_ t b]; unfold wayV; rw [if_pos c, if_neg]; rintro ⟨h', e1, e2⟩; cases e1
  · by_cases z : t = sz mc u
    · rw [show wT mc u W none t = 0 from if_pos z]; omega
    · have := at_ t.toNat (by omega)
      rw [show ((t.toNat : Nat) : Int) = t by omega] at this
      rw [this]; exact wayV_rg.1
theorem rounds_eq {mc : T_mc} {u : Nat} {rd st rd' st' : Nat → Int} (hl : linesOK mc u) (ho : loopsOK mc u) (hrd : ∀ i, -1 ≤ rd i) (hst0 : ∀ i, -1 ≤ st i) (hst : ∀ a, a < u → st a = st' a ∧ 0 ≤ st a) (hA : rdOK mc u st rd 0) (hB : rdB mc u st' rd' 0) :
    ∀ (m k : Nat), sz mc u ≤ k + m → k < sz mc u → uN mc u k = 13 → cq (rd k) (rd' k) := by
  intro m
  induction m using Nat.strongRecOn with
  | ind m ih =>
    intro k h1 h2 h3
    have lk := lst_rg hl ho h2 h3
    obtain ⟨W, w1, w2⟩ := hB k (Nat.zero_le _) h2 h3
    have ok := hA k (Nat.zero_le _) h2 h3
    have key := row_eq hl ho hrd hst0 lk.1 (by omega) (lW_ok hl ho h2 h3 hrd hst0) hst (by omega) (back_some hl ho h2 h3 w1) (fun j a b c => ⟨ih (m - 1) (by omega) j (by omega) (by omega) c, hA j (Nat.zero_le _) (by omega) c⟩)
    have e1 : wT mc u W (some k) ((k + 1 : Nat) : Int) = W (k + 1) := by
      show (if (k : Int) < ((k + 1 : Nat) : Int) ∧ ((k + 1 : Nat) : Int) < uB mc u k then W ((k + 1 : Nat) : Int).toNat else -1) = _
      rw [if_pos (by omega), Int.toNat_natCast]
    rw [e1] at key
    rcases key with ⟨a, b⟩ | ⟨a, b, c⟩
    · refine Or.inl ⟨?_, ?_⟩
      · rw [ok, a]; decide
      · rw [w2, b]; decide
    · have r1 := rd_lw ok (by omega)
      obtain ⟨y1, y2⟩ := bh_cap (w := 1) (x := W (k + 1)) (by omega) b
      refine Or.inr ⟨by omega, by rw [w2]; exact y1, ?_⟩
      rw [w2, y2, r1]
      have p := cap_a (x := lW mc u rd st k (lst mc u k) + 1) (x' := W (k + 1)) (y := 1) (by omega) (by omega)
      have q := cap_a (x' := lW mc u rd st k (lst mc u k) + 1) (x := W (k + 1)) (y := 1) (by omega) (by omega)
      rw [show lW mc u rd st k (lst mc u k) + 2 = 1 + (lW mc u rd st k (lst mc u k) + 1) by omega]
      omega
theorem xE_ne {mc : T_mc} {u k : Nat} {rd st : Nat → Int} : ∃ x, x ∈ xE mc u rd st k := by
  unfold xE
  (repeat' split) <;> exact ⟨_, List.mem_cons_self⟩
/-- the end is always reached -/
theorem end_reached {mc : T_mc} {u : Nat} {rd st : Nat → Int} {r : Nat → Int} (hl : linesOK mc u) (hrd : ∀ i, -1 ≤ rd i) (hst0 : ∀ i, -1 ≤ st i) (hr : wInv mc u rd st 0 (sz mc u) (sz mc u) r) : 0 ≤ r (sz mc u) := by
  obtain ⟨h1, h2, h3, h4, h5⟩ := hr
  have go : ∀ (m t : Nat), t + m = sz mc u → r t ≠ -1 → 0 ≤ r (sz mc u) := by
    intro m
    induction m using Nat.strongRecOn with
    | ind m ih =>
      intro t e q
      by_cases z : t = sz mc u
      · have := h3 t (by omega); rw [z] at this q; omega
      · obtain ⟨x, hx⟩ := xE_ne (mc := mc) (u := u) (k := t) (rd := rd) (st := st)
        have fw := xE_fw hl (show t < sz mc u by omega) x hx
        have w := xE_w (hrd t) (fun _ => hst0 _) x hx
        have g := h3 t (by omega)
        have := h4 t (Nat.zero_le _) (by omega) q x hx x.1.toNat (by omega) (by omega)
        have z0 : 0 ≤ cap (r t + x.2) := cap_0 (by omega)
        exact ih (sz mc u - x.1.toNat) (by omega) x.1.toNat (by omega) (by omega)
  exact go (sz mc u) 0 (by omega) (by rw [h1]; decide)
theorem xE_cs {mc : T_mc} {u k : Nat} {rd st rd' st' : Nat → Int} (hl : linesOK mc u) (hks : k < sz mc u) (h : rd k = rd' k) (hs : ∀ a, a < u → st a = st' a) : xE mc u rd st k = xE mc u rd' st' k := by
  unfold xE
  by_cases c : uN mc u k = 15 ∨ uN mc u k = 16
  · have := call_rg hl hks c
    rw [h, hs (uA mc u k).toNat (by omega)]
  · simp only [if_neg c, h]
theorem wR_x {mc : T_mc} {u b : Nat} {rd rd' st st' : Nat → Int} : ∀ (m k : Nat) (r : Nat → Int), (∀ j, k ≤ j → j < k + m → xE mc u rd st j = xE mc u rd' st' j) → wR mc u rd st b m k r = wR mc u rd' st' b m k r := by
  intro m
  induction m with
  | zero => intro k r _; rfl
  | succ m ih =>
    intro k r h
    rw [wR, wR, h k (Nat.le_refl _) (by omega), ih (k + 1) _ (fun j a b => h j (by omega) (by omega)), ih (k + 1) _ (fun j a b => h j (by omega) (by omega))]
theorem steps_eq {mc : T_mc} {u : Nat} {rd st rd' st' : Nat → Int} {W : Nat → Int} (hl : linesOK mc u) (ho : loopsOK mc u) (hrd : ∀ i, i < sz mc u → -1 ≤ rd i) (hst : ∀ a, a < u → st a = st' a ∧ 0 ≤ st a) (hA : rdOK mc u st rd 0) (hB : rdB mc u st' rd' 0) (hW : bRow mc u rd' st' none W 0 (sz mc u)) :
    0 ≤ stX mc u rd st ∧ 0 ≤ wT mc u W none 0 ∧ cap (stX mc u rd st) = cap (wT mc u W none 0) := by
  -- numbers where the walk does not look are made 0
  obtain ⟨rdT, r1, r2⟩ : ∃ rdT : Nat → Int, (∀ i, i < sz mc u → rd i = rdT i) ∧ ∀ i, -1 ≤ rdT i :=
    ⟨fun i => if i < sz mc u then rd i else 0, fun i hi => (if_pos hi).symm, fun i => by
      dsimp only
      by_cases z : i < sz mc u
      · rw [if_pos z]; exact hrd i z
      · rw [if_neg z]; omega⟩
  obtain ⟨stT, s1, s2⟩ : ∃ stT : Nat → Int, (∀ i, i < u → st i = stT i) ∧ ∀ i, -1 ≤ stT i :=
    ⟨fun i => if i < u then st i else 0, fun i hi => (if_pos hi).symm, fun i => by
      dsimp only
      by_cases z : i < u
      · rw [if_pos z]; have := (hst i z).2; omega
      · rw [if_neg z]; omega⟩
  have ex : ∀ j, j < sz mc u → xE mc u rd st j = xE mc u rdT stT j := fun j hj => xE_cs hl hj (r1 j hj) s1
  have eS : stX mc u rd st = stX mc u rdT stT := congrFun (wR_x _ _ _ (fun j _ b => ex j (by omega))) _
  have hA' : rdOK mc u stT rdT 0 := fun j a b c => by
    have lk := lst_rg hl ho b c
    rw [← r1 j b, hA j a b c]
    exact congrArg rdV (congrFun (wR_x _ _ _ (fun i _ d => ex i (by omega))) _)
  have hst' : ∀ a, a < u → stT a = st' a ∧ 0 ≤ stT a := fun a ha => by rw [← s1 a ha]; exact hst a ha
  have hq := rounds_eq hl ho r2 s2 hst' hA' hB (sz mc u)
  have inv : wInv mc u rdT stT 0 (sz mc u) (sz mc u) (wR mc u rdT stT (sz mc u) (sz mc u) 0 (r0 0)) := wR_ok hl (Nat.zero_le _) (Nat.le_refl _) r2 s2
  have top := row_eq hl ho r2 s2 (Nat.zero_le _) (Nat.le_refl _) inv hst' (Int.le_refl _) (back_none hW) (fun k _ b c => ⟨hq k (by omega) b c, hA' k (Nat.zero_le _) b c⟩)
  have en := end_reached hl r2 s2 inv
  rw [eS]
  have en' : 0 ≤ stX mc u rdT stT := en
  rcases top with ⟨a, b⟩ | ⟨a, b, c⟩
  · omega
  · rw [Int.add_zero] at c; exact ⟨en', b, c⟩
