/-! a scan: steps are paid out of the walk's row -/
theorem unit_row {mc : T_mc} {u : Nat} {st : Nat → Int} (h : UnitOK mc u st) (hst : ∀ a, a < u → 0 ≤ st a) : ∃ rd stT r : Nat → Int, (∀ i, -1 ≤ rd i) ∧ (∀ i, -1 ≤ stT i) ∧ (∀ a, a < u → stT a = st a) ∧ wInv mc u rd stT 0 (sz mc u) (sz mc u) r ∧ rdOK mc u stT rd 0 ∧ r (sz mc u) = st u := by
  obtain ⟨k1, hl, ho, k4, k5, k6, rd, q1, q2, q3⟩ := h
  obtain ⟨rdT, r1, r2⟩ : ∃ rdT : Nat → Int, (∀ i, i < sz mc u → rd i = rdT i) ∧ ∀ i, -1 ≤ rdT i :=
    ⟨fun i => if i < sz mc u then rd i else 0, fun i hi => (if_pos hi).symm, fun i => by
      dsimp only
      by_cases z : i < sz mc u
      · rw [if_pos z]; exact q1 i z
      · rw [if_neg z]; omega⟩
  obtain ⟨stT, s1, s2⟩ : ∃ stT : Nat → Int, (∀ i, i < u → st i = stT i) ∧ ∀ i, -1 ≤ stT i :=
    ⟨fun i => if i < u then st i else 0, fun i hi => (if_pos hi).symm, fun i => by
      dsimp only
      by_cases z : i < u
      · rw [if_pos z]; have := hst i z; omega
      · rw [if_neg z]; omega⟩
  have ex : ∀ j, j < sz mc u → xE mc u rd st j = xE mc u rdT stT j := fun j hj => xE_cs hl hj (r1 j hj) s1
  have eS : stX mc u rd st = stX mc u rdT stT := congrFun (wR_x _ _ _ (fun j _ b => ex j (by omega))) _
  refine ⟨rdT, stT, wR mc u rdT stT (sz mc u) (sz mc u) 0 (r0 0), r2, s2, fun a ha => (s1 a ha).symm, wR_ok hl (Nat.zero_le _) (Nat.le_refl _) r2 s2, fun j a b c => ?_, ?_⟩
  · have lk := lst_rg hl ho b c
    rw [← r1 j b, q2 j a b c]
    exact congrArg rdV (congrFun (wR_x _ _ _ (fun i _ d => ex i (by omega))) _)
  · rw [q3, eS]; rfl
def sumTo : Nat → (Nat → Int) → Int
  | 0, _ => 0
  | n + 1, g => sumTo n g + g n
theorem sum_le {g h : Nat → Int} : ∀ n, (∀ k, k < n → g k ≤ h k) → sumTo n g ≤ sumTo n h := by
  intro n
  induction n with
  | zero => intro _; exact Int.le_refl _
  | succ n ih => intro a; rw [sumTo, sumTo]; have := ih (fun k hk => a k (by omega)); have := a n (by omega); omega
theorem sum_le1 {g h : Nat → Int} {k0 : Nat} {d : Int} : ∀ n, k0 < n → (∀ k, k < n → k ≠ k0 → g k ≤ h k) → g k0 + d ≤ h k0 → sumTo n g + d ≤ sumTo n h := by
  intro n
  induction n with
  | zero => intro a; omega
  | succ n ih =>
    intro a b c
    rw [sumTo, sumTo]
    by_cases e : k0 = n
    · have := sum_le (g := g) (h := h) n (fun k hk => b k (by omega) (by omega)); rw [e] at c; omega
    · have := ih (by omega) (fun k hk => b k (by omega)) c; have := b n (by omega) (by omega); omega
theorem sum_0 {g : Nat → Int} : ∀ n, (∀ k, k < n → 0 ≤ g k) → 0 ≤ sumTo n g := by
  intro n
  induction n with
  | zero => intro _; exact Int.le_refl _
  | succ n ih => intro a; rw [sumTo]; have := ih (fun k hk => a k (by omega)); have := a n (by omega); omega
/-- a loop's counter; its round, or 0 -/
def cntV (mc : T_mc) (u bs : Nat) (f : Nat → Int32) (k : Nat) : Int := (f (bs + (uA mc u k).toNat)).toInt
def rp (rd : Nat → Int) (k : Nat) : Int := if rd k = -1 then 0 else rd k
def inLp (mc : T_mc) (u k i : Nat) : Prop := uN mc u k = 13 ∧ k < i ∧ i ≤ lst mc u k
noncomputable def tmS (mc : T_mc) (u bs : Nat) (rd : Nat → Int) (f : Nat → Int32) (i k : Nat) : Int := @ite Int (inLp mc u k i) (Classical.propDecidable _) (cntV mc u bs f k * rp rd k) 0
noncomputable def sm (mc : T_mc) (u bs : Nat) (rd : Nat → Int) (f : Nat → Int32) (i : Nat) : Int := sumTo (sz mc u) (tmS mc u bs rd f i)
def PosOK (mc : T_mc) (u bs : Nat) (rd r : Nat → Int) (i : Nat) (s : Int) (f : Nat → Int32) : Prop :=
  i ≤ sz mc u ∧ r i ≠ -1 ∧ (∀ k, k < sz mc u → inLp mc u k i → 0 ≤ cntV mc u bs f k ∧ cntV mc u bs f k ≤ uB mc u (k - 1)) ∧
  (i < sz mc u → uN mc u i = 13 → 0 ≤ cntV mc u bs f i ∧ cntV mc u bs f i ≤ uB mc u (i - 1) ∧ (cntV mc u bs f i = uB mc u (i - 1) ∨ rd i ≠ -1) ∧ s + cntV mc u bs f i * rp rd i + sm mc u bs rd f i ≤ r i + uB mc u (i - 1) * rp rd i) ∧
  (¬ (i < sz mc u ∧ uN mc u i = 13) → s + sm mc u bs rd f i ≤ r i)
theorem rp_0 {rd : Nat → Int} {k : Nat} (h : -1 ≤ rd k) : 0 ≤ rp rd k := by unfold rp; split <;> omega
section pot
variable {mc : T_mc} {u bs : Nat} {rd st r : Nat → Int}
theorem F_end (hl : linesOK mc u) (hrd : ∀ i, -1 ≤ rd i) (hst : ∀ i, -1 ≤ st i) (hr : wInv mc u rd st 0 (sz mc u) (sz mc u) r) : ∀ (m t : Nat), t + m = sz mc u → r t ≠ -1 → r t ≤ r (sz mc u) := by
  obtain ⟨h1, h2, h3, h4, h5⟩ := hr
  intro m
  induction m using Nat.strongRecOn with
  | ind m ih =>
    intro t e q
    by_cases z : t = sz mc u
    · rw [z]; exact Int.le_refl _
    · obtain ⟨x, hx⟩ := xE_ne (mc := mc) (u := u) (k := t) (rd := rd) (st := st)
      have fw := xE_fw hl (show t < sz mc u by omega) x hx
      have w := xE_w (hrd t) (fun _ => hst _) x hx
      have g := h3 t (by omega)
      have := h4 t (Nat.zero_le _) (by omega) q x hx x.1.toNat (by omega) (by omega)
      have z1 : r t ≤ cap (r t + x.2) := by have := cap_m (x := r t) (y := r t + x.2) (by omega); rw [cap_id g.2] at this; exact this
      have := ih (sz mc u - x.1.toNat) (by omega) x.1.toNat (by omega) (by omega)
      omega
theorem F_U (hl : linesOK mc u) (hrd : ∀ i, -1 ≤ rd i) (hst : ∀ i, -1 ≤ st i) (hr : wInv mc u rd st 0 (sz mc u) (sz mc u) r) (hS : r (sz mc u) ≤ 1000000000) {i t : Nat} (hi : i < sz mc u) (q : r i ≠ -1) {x : Int × Int} (hx : x ∈ xE mc u rd st i) (et : (t : Int) = x.1) : t ≤ sz mc u ∧ r t ≠ -1 ∧ r i + x.2 ≤ r t := by
  have fw := xE_fw hl hi x hx
  have w := xE_w (hrd i) (fun _ => hst _) x hx
  have g := hr.2.2.1 i (by omega)
  have h := hr.2.2.2.1 i (Nat.zero_le _) hi q x hx t (by omega) et
  have z0 : 0 ≤ cap (r i + x.2) := cap_0 (by omega)
  have e := F_end hl hrd hst hr (sz mc u - t) t (by omega) (by omega)
  refine ⟨by omega, by omega, ?_⟩
  unfold cap at h
  split at h
  · exact h
  · omega
theorem sm_0 (hrd : ∀ i, -1 ≤ rd i) {i : Nat} {f : Nat → Int32} (h : ∀ k, k < sz mc u → inLp mc u k i → 0 ≤ cntV mc u bs f k) : 0 ≤ sm mc u bs rd f i := by
  refine sum_0 _ (fun k hk => ?_)
  unfold tmS
  split
  · rename_i c; exact Int.mul_nonneg (h k hk c) (rp_0 (hrd k))
  · exact Int.le_refl _
/-- fewer loops around, the same counters: not more owed -/
theorem sm_le (hrd : ∀ i, -1 ≤ rd i) {i t : Nat} {f f' : Nat → Int32} (h0 : ∀ k, k < sz mc u → inLp mc u k i → 0 ≤ cntV mc u bs f k) (h : ∀ k, k < sz mc u → inLp mc u k t → inLp mc u k i ∧ cntV mc u bs f' k = cntV mc u bs f k) : sm mc u bs rd f' t ≤ sm mc u bs rd f i := by
  refine sum_le _ (fun k hk => ?_)
  unfold tmS
  by_cases c : inLp mc u k t
  · rw [if_pos c, if_pos (h k hk c).1, (h k hk c).2]; exact Int.le_refl _
  · rw [if_neg c]
    split
    · rename_i c2; exact Int.mul_nonneg (h0 k hk c2) (rp_0 (hrd k))
    · exact Int.le_refl _
/-- loops around the end of an edge are around its beginning -/
theorem in_edge (hl : linesOK mc u) (ho : loopsOK mc u) {i t k : Nat} (hi : i < sz mc u) (n13 : uN mc u i ≠ 13) {x : Int × Int} (hx : x ∈ xE mc u rd st i) (et : (t : Int) = x.1) (hk : k < sz mc u) (h : inLp mc u k t) : inLp mc u k i := by
  have fw := xE_fw hl hi x hx
  obtain ⟨e13, a, b⟩ := h
  by_cases z : i < k
  · exact (entry hl ho hi hk e13 hx et a b z).elim
  · by_cases z2 : i = k
    · rw [z2] at n13; exact absurd e13 n13
    · exact ⟨e13, by omega, by omega⟩
theorem pot_edge (hl : linesOK mc u) (ho : loopsOK mc u) (hrd : ∀ i, -1 ≤ rd i) (hst : ∀ i, -1 ≤ st i) (hr : wInv mc u rd st 0 (sz mc u) (sz mc u) r) (hS : r (sz mc u) ≤ 1000000000) {i t : Nat} {s s' : Int} {f f' : Nat → Int32} (hp : PosOK mc u bs rd r i s f) (hi : i < sz mc u) (n13 : uN mc u i ≠ 13) {x : Int × Int} (hx : x ∈ xE mc u rd st i) (et : (t : Int) = x.1) (hs : s' ≤ s + x.2) (t13 : ¬ (t < sz mc u ∧ uN mc u t = 13)) (hc : ∀ k, k < sz mc u → inLp mc u k t → cntV mc u bs f' k = cntV mc u bs f k) : PosOK mc u bs rd r t s' f' := by
  obtain ⟨p1, p2, p3, p4, p5⟩ := hp
  obtain ⟨f1, f2, f3⟩ := F_U hl hrd hst hr hS hi p2 hx et
  have ie := fun k hk h => in_edge (rd := rd) (st := st) hl ho hi n13 hx et (k := k) hk h
  refine ⟨f1, f2, fun k hk h => ?_, fun a b => absurd ⟨a, b⟩ t13, fun _ => ?_⟩
  · rw [hc k hk h]; exact p3 k hk (ie k hk h)
  · have a := p5 (fun z => n13 z.2)
    have b := sm_le (bs := bs) (f := f) (f' := f') hrd (fun k hk h => (p3 k hk h).1) (fun k hk h => ⟨ie k hk h, hc k hk h⟩)
    omega
/-- a NEXT is come to from its COUNT alone, but for its BACK -/
theorem no13 (ho : loopsOK mc u) {t : Nat} (h : t < sz mc u ∧ uN mc u t = 13) : 1 ≤ t ∧ uN mc u (t - 1) = 12 := by
  have := next_ok ho h.1 h.2; exact ⟨this.1, this.2.1⟩
theorem go13 (hl : linesOK mc u) (ho : loopsOK mc u) {i t : Nat} (hi : i < sz mc u) (e : uN mc u i = 10 ∨ uN mc u i = 11) (et : (t : Int) = uA mc u i) : ¬ (t < sz mc u ∧ uN mc u t = 13) := fun z => by
  have tg := tgt10 hl hi e
  have := go_ok ho hi e z.1 z.2 (Or.inl et.symm)
  have := this.1; omega
theorem cnt_other (ho : loopsOK mc u) {i k : Nat} (hi : i < sz mc u) (e : uN mc u i = 12) (hk : k < sz mc u) (h : inLp mc u k i) (hb : (lst mc u k : Int) = uB mc u k - 1) : uA mc u k ≠ uA mc u i := fun z => by
  have := ho i hi
  unfold bad7 at this
  exact this (Or.inl ⟨e, Or.inr ⟨k, Nat.zero_le _, hk, h.1, ⟨by have := h.2.1; omega, by have := h.2.2; omega⟩, z⟩⟩)
theorem pot_step (hl : linesOK mc u) (ho : loopsOK mc u) (hrd : ∀ i, -1 ≤ rd i) (hst : ∀ i, -1 ≤ st i) (hr : wInv mc u rd st 0 (sz mc u) (sz mc u) r) (hS : r (sz mc u) ≤ 1000000000) (hA : rdOK mc u st rd 0) {i t : Nat} {s : Int} {f f' : Nat → Int32} (hp : PosOK mc u bs rd r i s f) (hi : i < sz mc u) (hE : Eff mc u bs i t f f') : PosOK mc u bs rd r t (s + 1) f' := by
  have edge := fun {t : Nat} {s' : Int} {f' : Nat → Int32} (n13 : uN mc u i ≠ 13) {x : Int × Int} (hx : x ∈ xE mc u rd st i) (et : (t : Int) = x.1) (hs : s' ≤ s + x.2) (t13 : ¬ (t < sz mc u ∧ uN mc u t = 13)) (hc : ∀ k, k < sz mc u → inLp mc u k t → cntV mc u bs f' k = cntV mc u bs f k) => pot_edge (bs := bs) hl ho hrd hst hr hS hp hi n13 hx et hs t13 hc
  rcases hE with ⟨e, et, ec⟩ | ⟨e, et, ef⟩ | ⟨e, et, ef⟩ | ⟨e, et, ef⟩ | ⟨e, hh⟩
  · -- falls through
    have hx : ((i : Int) + 1, 1) ∈ xE mc u rd st i := by
      unfold xE; rw [if_neg (by omega), if_neg (by omega), if_neg (by omega), if_neg (by omega), if_neg (by omega), if_neg (by omega)]; exact List.mem_cons_self
    subst et
    refine edge (by omega) hx (by dsimp only; omega) (by dsimp only; omega) (fun z => ?_) (fun k hk h => ?_)
    · have := no13 ho z; rw [Nat.add_sub_cancel] at this; omega
    · unfold cntV
      refine congrArg Int32.toInt (Classical.byContradiction fun z => ?_)
      have cr := ctr_rg hl hk (Or.inr h.1)
      exact (ec _ z).1 k hk (Or.inr h.1) (by omega)
  · -- GO, BACK
    subst ef
    rcases e with e | e
    · have hx : (uA mc u i, 1) ∈ xE mc u rd st i := by unfold xE; rw [if_pos e]; exact List.mem_cons_self
      exact edge (by omega) hx et (by dsimp only; omega) (go13 hl ho hi (Or.inl e) et) (fun _ _ _ => rfl)
    · obtain ⟨k, k1, k2, k3, k4⟩ := back_ok hl ho hi e
      have hks : k < sz mc u := by omega
      have nx := next_ok ho hks k2
      have ea : uA mc u (lst mc u k) = k := nx.2.2.2.2.1
      rw [k3] at ea
      have etk : t = k := by omega
      subst etk
      obtain ⟨p1, p2, p3, p4, p5⟩ := hp
      have lk := lst_rg hl ho hks k2
      obtain ⟨i1, i2, i3, i4⟩ := in_le hl ho hrd hst (Nat.le_refl _) hr hks k2 (Nat.zero_le _) (by omega) i k1 (by omega) p2
      rw [← k3] at i3 i4
      have rk := rd_lw (hA t (Nat.zero_le _) hks k2) i3
      have g1 := (lW_ok hl ho hks k2 hrd hst).2.2.1 (lst mc u t) (Nat.le_refl _)
      have lw := loop_w rk (by omega)
      have en := F_end hl hrd hst hr (sz mc u - i) i (by omega) p2
      have rpe : rp rd t = rd t := if_neg (by omega)
      have int : inLp mc u t i := ⟨k2, k1, by omega⟩
      have ct := p3 t hks int
      have a := p5 (by omega)
      have b : sm mc u bs rd f' t + cntV mc u bs f' t * rp rd t ≤ sm mc u bs rd f' i := by
        refine sum_le1 _ hks (fun k hk kt => ?_) ?_
        · unfold tmS
          by_cases c : inLp mc u k t
          · have : inLp mc u k i := ⟨c.1, by have := c.2.1; omega, by
              have := nest hl ho hk c.1 hks k2 c.2.1 c.2.2; omega⟩
            rw [if_pos c, if_pos this]; exact Int.le_refl _
          · rw [if_neg c]
            split
            · rename_i c2; exact Int.mul_nonneg (p3 k hk c2).1 (rp_0 (hrd k))
            · exact Int.le_refl _
        · unfold tmS
          rw [if_neg (fun z => by have := z.2.1; omega), if_pos int]; omega
      have i5 : r i ≤ r t + wIn mc u rd t + lW mc u rd st t (lst mc u t) := by rw [k3] at i4 ⊢; unfold cap at i4; split at i4 <;> omega
      refine ⟨by omega, i2, fun k hk h => ?_, fun _ _ => ⟨ct.1, ct.2, Or.inr (by omega), ?_⟩, fun z => absurd ⟨hks, k2⟩ z⟩
      · exact p3 k hk ⟨h.1, by have := h.2.1; omega, by have := nest hl ho hk h.1 hks k2 h.2.1 h.2.2; omega⟩
      · rw [rpe] at b ⊢; omega
  · -- UNLESS
    subst ef
    rcases et with et | et
    · have hx : (uA mc u i, 1) ∈ xE mc u rd st i := by unfold xE; rw [if_neg (by omega), if_pos e]; exact List.mem_cons_self
      exact edge (by omega) hx et (by dsimp only; omega) (go13 hl ho hi (Or.inr e) et) (fun _ _ _ => rfl)
    · have hx : ((i : Int) + 1, 1) ∈ xE mc u rd st i := by unfold xE; rw [if_neg (by omega), if_pos e]; exact List.mem_cons_of_mem _ List.mem_cons_self
      subst et
      refine edge (by omega) hx (by dsimp only; omega) (by dsimp only; omega) (fun z => ?_) (fun _ _ _ => rfl)
      have := no13 ho z; rw [Nat.add_sub_cancel] at this; omega
  · -- COUNT
    subst et
    have hx : ((i : Int) + 1, 1) ∈ xE mc u rd st i := by
      unfold xE; rw [if_neg (by omega), if_neg (by omega), if_neg (by omega), if_neg (by omega), if_neg (by omega), if_neg (by omega)]; exact List.mem_cons_self
    obtain ⟨p1, p2, p3, p4, p5⟩ := hp
    obtain ⟨f1, f2, f3⟩ := F_U hl hrd hst hr hS hi p2 hx (t := i + 1) (by dsimp only; omega)
    dsimp only at f3
    have h7 : i + 1 < sz mc u ∧ uN mc u (i + 1) = 13 ∧ uA mc u (i + 1) = uA mc u i := by
      have := ho i hi
      unfold bad7 at this
      exact Classical.byContradiction fun z => this (Or.inl ⟨e, Or.inl z⟩)
    have ie := fun k hk h => in_edge (rd := rd) (st := st) hl ho hi (by omega) hx (t := i + 1) (by dsimp only; omega) (k := k) hk h
    have cr := ctr_rg hl hi (Or.inl e)
    have same : ∀ k, k < sz mc u → inLp mc u k (i + 1) → cntV mc u bs f' k = cntV mc u bs f k := fun k hk h => by
      have lk := lst_rg hl ho hk h.1
      have ne := cnt_other ho hi e hk (ie k hk h) lk.2.2
      have crk := ctr_rg hl hk (Or.inr h.1)
      unfold cntV; rw [ef, upd_ne (by omega)]
    have own' : cntV mc u bs f' (i + 1) = uB mc u i := by unfold cntV; rw [ef, h7.2.2, upd_at]; rfl
    have cg := count_rg hl hi e
    refine ⟨f1, f2, fun k hk h => by rw [same k hk h]; exact p3 k hk (ie k hk h), fun _ _ => ?_, fun z => absurd ⟨h7.1, h7.2.1⟩ z⟩
    rw [own', Nat.add_sub_cancel]
    refine ⟨cg.1, Int.le_refl _, Or.inl rfl, ?_⟩
    have a := p5 (by omega)
    have b := sm_le (bs := bs) (f := f) (f' := f') hrd (fun k hk h => (p3 k hk h).1) (fun k hk h => ⟨ie k hk h, same k hk h⟩)
    omega
  · -- NEXT
    obtain ⟨p1, p2, p3, p4, p5⟩ := hp
    obtain ⟨q1, q2, q3, q4⟩ := p4 hi e
    have nx := next_ok ho hi e
    have lk := lst_rg hl ho hi e
    have cr := ctr_rg hl hi (Or.inr e)
    have rp0 := rp_0 (hrd i)
    rcases hh with ⟨c0, et, ef⟩ | ⟨c0, et, ef⟩
    · subst ef
      have cz : cntV mc u bs f' i = 0 := by unfold cntV; rw [c0]; decide
      rw [cz, Int.zero_mul, Int.add_zero] at q4
      have t13 : ¬ (t < sz mc u ∧ uN mc u t = 13) := fun z => by
        have := no13 ho z
        rw [show t - 1 = lst mc u i by omega, show uN mc u (lst mc u i) = 14 from nx.2.2.2.1] at this
        omega
      have ie : ∀ k, k < sz mc u → inLp mc u k t → inLp mc u k i := fun k hk h => by
        have lkk := lst_rg hl ho hk h.1
        obtain ⟨h1, h2, h3⟩ := h
        by_cases z : k < i
        · exact ⟨h1, z, by omega⟩
        · by_cases z2 : k = i
          · subst z2; omega
          · have := nest hl ho hi e hk h1 (by omega) (by omega); omega
      have b := sm_le (bs := bs) (f := f') (f' := f') hrd (fun k hk h => (p3 k hk h).1) (fun k hk h => ⟨ie k hk h, rfl⟩)
      have main : t ≤ sz mc u ∧ r t ≠ -1 ∧ r i + 1 + uB mc u (i - 1) * rp rd i ≤ r t := by
        by_cases cn : uB mc u (i - 1) ≤ 0
        · have hx : (uB mc u i, 1) ∈ xE mc u rd st i := by rw [xE_13 e, if_pos cn]; exact List.mem_cons_self
          obtain ⟨f1, f2, f3⟩ := F_U hl hrd hst hr hS hi p2 hx et
          have z : uB mc u (i - 1) = 0 := by omega
          rw [z, Int.zero_mul]
          dsimp only at f3
          exact ⟨f1, f2, by omega⟩
        · have r1 : rd i ≠ -1 := by
            rcases q3 with z | z
            · omega
            · exact z
          have okk := hA i (Nat.zero_le _) hi e
          have nm : lW mc u rd st i (lst mc u i) ≠ -1 := fun z => by unfold rdV at okk; rw [if_pos z] at okk; exact r1 okk
          have rk := rd_lw okk nm
          have lw := loop_w rk r1
          obtain ⟨i1, i2⟩ := in_ge hl ho hrd hst hr hi e (Nat.zero_le _) lk.2.1 (by omega) p2 (lst mc u i) (by omega) (Nat.le_refl _) nm
          have e14 : uN mc u (lst mc u i) = 14 := nx.2.2.2.1
          have hx : ((lst mc u i : Int) + 1, 2) ∈ xE mc u rd st (lst mc u i) := by rw [xE_14 e14]; exact List.mem_cons_self
          obtain ⟨f1, f2, f3⟩ := F_U hl hrd hst hr hS lk.2.1 i1 hx (t := t) (by dsimp only; omega)
          dsimp only at f3
          have en := F_end hl hrd hst hr (sz mc u - lst mc u i) (lst mc u i) (by omega) i1
          have i5 : r i + wIn mc u rd i + lW mc u rd st i (lst mc u i) ≤ r (lst mc u i) := by unfold cap at i2; split at i2 <;> omega
          have rpe : rp rd i = rd i := if_neg r1
          rw [rpe]
          exact ⟨f1, f2, by omega⟩
      exact ⟨main.1, main.2.1, fun k hk h => p3 k hk (ie k hk h), fun a b => absurd ⟨a, b⟩ t13, fun _ => by have := main.2.2; omega⟩
    · subst et
      have cz : cntV mc u bs f i ≠ 0 := fun z => c0 (by rw [i_eq, k0]; exact z)
      have hn : 0 < uB mc u (i - 1) := by omega
      have hx : ((i : Int) + 1, wIn mc u rd i) ∈ xE mc u rd st i := by rw [xE_13 e, if_neg (by omega)]; exact List.mem_cons_self
      obtain ⟨f1, f2, f3⟩ := F_U hl hrd hst hr hS hi p2 hx (t := i + 1) (by dsimp only; omega)
      dsimp only at f3
      have t13 : ¬ (i + 1 < sz mc u ∧ uN mc u (i + 1) = 13) := fun z => by
        have := no13 ho z; rw [Nat.add_sub_cancel] at this; omega
      have cge := i_lt31 (f (bs + (uA mc u i).toNat))
      have q1' : 0 ≤ (f (bs + (uA mc u i).toNat)).toInt := q1
      have cz' : (f (bs + (uA mc u i).toNat)).toInt ≠ 0 := cz
      have own' : cntV mc u bs f' i = cntV mc u bs f i - 1 := by
        unfold cntV; rw [ef, upd_at, i_sub (by rw [k1]; omega) (by rw [k1]; omega), k1]
      have same : ∀ k, k < sz mc u → inLp mc u k i → cntV mc u bs f' k = cntV mc u bs f k := fun k hk h => by
        have lkk := lst_rg hl ho hk h.1
        have hk1 : inLp mc u k (i - 1) := ⟨h.1, by
          have := h.2.1
          have ne : k ≠ i - 1 := fun z => by have := h.1; rw [z, nx.2.1] at this; exact absurd this (by decide)
          omega, by have := h.2.2; omega⟩
        have ne := cnt_other ho (show i - 1 < sz mc u by omega) nx.2.1 hk hk1 lkk.2.2
        rw [nx.2.2.1] at ne
        have crk := ctr_rg hl hk (Or.inr h.1)
        unfold cntV; rw [ef, upd_ne (by omega)]
      have ie : ∀ k, k < sz mc u → inLp mc u k (i + 1) → k ≠ i → inLp mc u k i := fun k hk h kn => ⟨h.1, by have := h.2.1; omega, by have := h.2.2; omega⟩
      have b : sm mc u bs rd f' (i + 1) ≤ sm mc u bs rd f i + (cntV mc u bs f i - 1) * rp rd i := by
        have := sum_le1 (g := tmS mc u bs rd f' (i + 1)) (h := tmS mc u bs rd f i) (k0 := i) (d := - ((cntV mc u bs f i - 1) * rp rd i)) (sz mc u) hi (fun k hk kn => by
          unfold tmS
          by_cases c : inLp mc u k (i + 1)
          · have c2 := ie k hk c kn
            rw [if_pos c, if_pos c2, same k hk c2]; exact Int.le_refl _
          · rw [if_neg c]
            split
            · rename_i c2; exact Int.mul_nonneg (p3 k hk c2).1 (rp_0 (hrd k))
            · exact Int.le_refl _) (by
          unfold tmS
          rw [if_pos (show inLp mc u i (i + 1) from ⟨e, by omega, by omega⟩), if_neg (fun z => by have := z.2.1; omega), own']; omega)
        unfold sm; omega
      have wq : 1 + (uB mc u (i - 1) - 1) * rp rd i = wIn mc u rd i := by
        unfold wIn rp
        by_cases z : rd i = -1
        · rw [if_pos z, if_pos z]; omega
        · rw [if_neg z, if_neg z]
      have m1 : (uB mc u (i - 1) - 1) * rp rd i = uB mc u (i - 1) * rp rd i - rp rd i := by rw [Int.sub_mul, Int.one_mul]
      have m2 : (cntV mc u bs f i - 1) * rp rd i = cntV mc u bs f i * rp rd i - rp rd i := by rw [Int.sub_mul, Int.one_mul]
      refine ⟨f1, f2, fun k hk h => ?_, fun a b => absurd ⟨a, b⟩ t13, fun _ => by omega⟩
      by_cases kn : k = i
      · subst kn; rw [own']; omega
      · rw [same k hk (ie k hk h kn)]; exact p3 k hk (ie k hk h kn)
/-- never more than the unit's steps -/
theorem pot_le (hl : linesOK mc u) (ho : loopsOK mc u) (hrd : ∀ i, -1 ≤ rd i) (hst : ∀ i, -1 ≤ st i) (hr : wInv mc u rd st 0 (sz mc u) (sz mc u) r) (hS : r (sz mc u) ≤ 1000000000) (hA : rdOK mc u st rd 0) {i : Nat} {s : Int} {f : Nat → Int32} (hp : PosOK mc u bs rd r i s f) (n13 : ¬ (i < sz mc u ∧ uN mc u i = 13)) : s ≤ r (sz mc u) := by
  obtain ⟨p1, p2, p3, p4, p5⟩ := hp
  have a := p5 n13
  have b := sm_0 (bs := bs) hrd (fun k hk h => (p3 k hk h).1)
  have c := F_end hl hrd hst hr (sz mc u - i) i (by omega) p2
  omega
end pot
