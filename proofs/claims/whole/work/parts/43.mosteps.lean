/-! the reference's rows of ways, backward -/
theorem mE_fw {mc : T_mc} {u k : Nat} {rd st : Nat → Int} (hl : linesOK mc u) (hks : k < sz mc u) : ∀ x, x ∈ mE mc u rd st k → (k : Int) < x.1 ∧ x.1 ≤ sz mc u := by
  intro x hx
  unfold mE at hx
  split at hx
  · rename_i c; have := tgt10 hl hks (Or.inl c); simp only [List.mem_cons, List.not_mem_nil, or_false] at hx; subst hx; dsimp only; omega
  split at hx
  · rename_i c; have := tgt10 hl hks (Or.inr c); simp only [List.mem_cons, List.not_mem_nil, or_false] at hx; rcases hx with hx | hx <;> subst hx <;> dsimp only <;> omega
  split at hx
  · rename_i c; have := tgt13 hl hks c
    split at hx
    · simp only [List.mem_cons, List.not_mem_nil, or_false] at hx; subst hx; dsimp only; omega
    · split at hx
      · simp only [List.mem_cons, List.not_mem_nil, or_false] at hx; subst hx; dsimp only; omega
      · simp only [List.mem_cons, List.not_mem_nil, or_false] at hx; rcases hx with hx | hx <;> subst hx <;> dsimp only <;> omega
  split at hx
  · exact absurd hx List.not_mem_nil
  split at hx
  · simp only [List.mem_cons, List.not_mem_nil, or_false] at hx; subst hx; dsimp only; omega
  split at hx
  · simp only [List.mem_cons, List.not_mem_nil, or_false] at hx; subst hx; dsimp only; omega
  · simp only [List.mem_cons, List.not_mem_nil, or_false] at hx; subst hx; dsimp only; omega
theorem wV_c {T T' : Int → Int} : ∀ (l : List (Int × Int)), (∀ x, x ∈ l → T x.1 = T' x.1) → wV T l = wV T' l := by
  intro l
  induction l with
  | nil => intro _; rfl
  | cons x l ih =>
    intro h
    show mx (bh x.2 (T x.1)) (wV T l) = mx (bh x.2 (T' x.1)) (wV T' l)
    rw [h x List.mem_cons_self, ih (fun y hy => h y (List.mem_cons_of_mem _ hy))]
theorem wV_rg (T : Int → Int) : ∀ (l : List (Int × Int)), -1 ≤ wV T l ∧ wV T l ≤ 2000000000 := by
  intro l
  induction l with
  | nil => show -1 ≤ (-1 : Int) ∧ (-1 : Int) ≤ 2000000000; omega
  | cons x l ih =>
    have := bh_rg x.2 (T x.1)
    show -1 ≤ mx (bh x.2 (T x.1)) (wV T l) ∧ mx (bh x.2 (T x.1)) (wV T l) ≤ _
    unfold mx; split <;> omega
theorem wayV_rg {mc : T_mc} {u k : Nat} {rd st : Nat → Int} {T : Int → Int} {c : Option Nat} : -1 ≤ wayV mc u rd st T c k ∧ wayV mc u rd st T c k ≤ 2000000000 := by
  unfold wayV
  split
  · split <;> omega
  · exact wV_rg _ _
theorem mE_c {mc : T_mc} {u k : Nat} {rd rd' st : Nat → Int} (h : rd k = rd' k) : mE mc u rd st k = mE mc u rd' st k := by unfold mE; rw [h]
theorem wayV_c {mc : T_mc} {u k : Nat} {rd rd' st : Nat → Int} {T T' : Int → Int} {c : Option Nat} (hl : linesOK mc u) (hks : k < sz mc u) (hT : ∀ t : Int, (k : Int) < t → t ≤ sz mc u → T t = T' t) (hr : rd k = rd' k) : wayV mc u rd st T c k = wayV mc u rd' st T' c k := by
  unfold wayV
  rw [mE_c hr, wV_c _ (fun x hx => by have := mE_fw hl hks x hx; exact hT x.1 this.1 this.2)]
def bRow (mc : T_mc) (u : Nat) (rd st : Nat → Int) (c : Option Nat) (W : Nat → Int) (lo hi : Nat) : Prop := ∀ k, lo ≤ k → k < hi → W k = wayV mc u rd st (wT mc u W c) c k
def cHi (mc : T_mc) (u : Nat) (c : Option Nat) : Nat := match c with | none => sz mc u | some h => lst mc u h + 1
def cLo (c : Option Nat) : Nat := match c with | none => 0 | some h => h + 1
def cxOK (mc : T_mc) (u : Nat) (c : Option Nat) : Prop := ∀ h, c = some h → h < sz mc u ∧ uN mc u h = 13
theorem cHi_le {mc : T_mc} {u : Nat} (hl : linesOK mc u) (ho : loopsOK mc u) {c : Option Nat} (hcx : cxOK mc u c) : cHi mc u c ≤ sz mc u := by
  cases c with
  | none => exact Nat.le_refl _
  | some h => obtain ⟨a, b⟩ := hcx h rfl; have := lst_rg hl ho a b; show lst mc u h + 1 ≤ _; omega
theorem wT_c {mc : T_mc} {u : Nat} {W W' : Nat → Int} {c : Option Nat} {t : Int} (h : W t.toNat = W' t.toNat) : wT mc u W c t = wT mc u W' c t := by
  unfold wT; cases c <;> (dsimp only; rw [h])
theorem wT_rg {mc : T_mc} {u : Nat} (hl : linesOK mc u) (ho : loopsOK mc u) {c : Option Nat} (hcx : cxOK mc u c) {rd st W : Nat → Int} {j : Nat} (hb : bRow mc u rd st c W (j + 1) (cHi mc u c)) : ∀ t : Int, (j : Int) < t → t ≤ sz mc u → wT mc u W c t ≤ 2000000000 := fun t h1 h2 => by
  unfold wT
  cases c with
  | none =>
    dsimp only
    split
    · omega
    · rw [hb t.toNat (by omega) (show _ < sz mc u by omega)]; exact wayV_rg.2
  | some h =>
    obtain ⟨a, b⟩ := hcx h rfl
    have := lst_rg hl ho a b
    dsimp only
    split
    · rw [hb t.toNat (by omega) (show _ < lst mc u h + 1 by omega)]; exact wayV_rg.2
    · omega
theorem mo_step {n : Nat} {mc : T_mc} {mq : T_mq} (hc : CodeOK mc) {u : Nat} (hu : u < nU mc) (hl : linesOK mc u) (ho : loopsOK mc u) (hfr : mq_from_ mq = nI (fi mc u)) (hmn : mq_many mq = nI (sz mc u)) (c : Option Nat) (hcx : cxOK mc u c) {j : Nat} (hj : j < cHi mc u c)
    (hr : uN mc u j = 13 → -1 ≤ (mq_rounds mq j).toInt ∧ (mq_rounds mq j).toInt ≤ 2000000000) (hst : ∀ a, a < u → 0 ≤ (mq_steps mq a).toInt ∧ (mq_steps mq a).toInt ≤ 1000000000)
    (hb : bRow mc u (wI (mq_rounds mq)) (wI (mq_steps mq)) c (wI (mq_ways mq)) (j + 1) (cHi mc u c)) :
    ∃ v, r_Mo_way n mc mq (nI j) (cN c) = some v ∧ bRow mc u (wI (mq_rounds mq)) (wI (mq_steps mq)) c (wI (vp_updL (mq_ways mq) j v)) j (cHi mc u c) := by
  have hle := cHi_le hl ho hcx
  obtain ⟨v, e1, e2⟩ := mo_wayK (n := n) hc hu hl ho hfr hmn c hcx (k := j) (by omega) (wT_rg hl ho hcx hb) hr hst
  refine ⟨v, e1, fun k h1 h2 => ?_⟩
  have hT : ∀ t : Int, (k : Int) < t → t ≤ sz mc u → wT mc u (wI (mq_ways mq)) c t = wT mc u (wI (vp_updL (mq_ways mq) j v)) c t := fun t a b => by
    refine wT_c ?_
    unfold wI; rw [updL_ne (by omega)]
  rw [← wayV_c hl (show k < sz mc u by omega) hT rfl]
  by_cases z : k = j
  · rw [z]; unfold wI; rw [updL_at]; exact e2
  · show (vp_updL (mq_ways mq) j v k).toInt = _
    rw [updL_ne z]; exact hb k (by omega) h2
theorem nI_m1 {m : Nat} (h : m < 2147483648) : nI m + (-1) = nI m - 1 := by
  rw [i_eq, i_add (by rw [nI_t (by omega), km1]; omega) (by rw [nI_t (by omega), km1]; omega), i_sub (by rw [nI_t (by omega), k1]; omega) (by rw [nI_t (by omega), k1]; omega), km1, k1]; omega
theorem mo_l27 {n : Nat} {mc : T_mc} (hc : CodeOK mc) {u : Nat} (hu : u < nU mc) (hl : linesOK mc u) (ho : loopsOK mc u) {h : Nat} (hh : h < sz mc u) (e13 : uN mc u h = 13) {k7 : T_mq → Int32 → Option (Int64 × T_mq)} :
    ∀ (m f : Nat) (mq : T_mq), h + m ≤ lst mc u h → m < f → mq_from_ mq = nI (fi mc u) → mq_many mq = nI (sz mc u) → (∀ j, h < j → j < sz mc u → uN mc u j = 13 → -1 ≤ (mq_rounds mq j).toInt ∧ (mq_rounds mq j).toInt ≤ 2000000000) → (∀ a, a < u → 0 ≤ (mq_steps mq a).toInt ∧ (mq_steps mq a).toInt ≤ 1000000000) →
    bRow mc u (wI (mq_rounds mq)) (wI (mq_steps mq)) (some h) (wI (mq_ways mq)) (h + m + 1) (lst mc u h + 1) →
    ∃ g f', r_Mo_stepsOf_l27 n mc k7 f mq (nI h) (nI (h + m)) = r_Mo_stepsOf_l27 n mc k7 (f' + 1) (mq_ways_s mq g) (nI h) (nI h) ∧ bRow mc u (wI (mq_rounds mq)) (wI (mq_steps mq)) (some h) (wI g) (h + 1) (lst mc u h + 1) := by
  have hf := fi_le hc hu
  have lr := lst_rg hl ho hh e13
  intro m
  induction m with
  | zero =>
    intro f mq _ hf' _ _ _ _ hb
    match f, hf' with
    | f + 1, _ => exact ⟨mq_ways mq, f, rfl, hb⟩
  | succ m ih =>
    intro f mq hm hf' hfr hmn hr hst hb
    match f, hf' with
    | f + 1, hf' =>
      obtain ⟨v, e1, e2⟩ := mo_step (n := n) hc hu hl ho hfr hmn (some h) (by intro h' e; cases e; exact ⟨hh, e13⟩) (j := h + (m + 1)) (show _ < lst mc u h + 1 by omega) (fun e => hr _ (by omega) (by omega) e) hst hb
      have e1' : r_Mo_way n mc mq (nI (h + (m + 1))) (nI h) = some v := e1
      rw [r_Mo_stepsOf_l27, if_neg (by rw [i_le, nI_t (by omega), nI_t (by omega)]; omega), e1', Option.bind_some, ga_nI (by omega) (by decide), nI_clamp (by omega), nI_m1 (by omega), show h + (m + 1) = (h + m) + 1 by omega, nI_pred]
      obtain ⟨g, f', x, y⟩ := ih f (mq_ways_s mq (vp_updL (mq_ways mq) (h + m + 1) v)) (by omega) (by omega) hfr hmn hr hst e2
      exact ⟨g, f', x, y⟩
def rdB (mc : T_mc) (u : Nat) (st rd : Nat → Int) (k : Nat) : Prop := ∀ j, k ≤ j → j < sz mc u → uN mc u j = 13 → ∃ W, bRow mc u rd st (some j) W (j + 1) (lst mc u j + 1) ∧ rd j = bh 1 (W (j + 1))
theorem mo_l7 {n : Nat} (hn : 5000 ≤ n) {mc : T_mc} (hc : CodeOK mc) {u : Nat} (hu : u < nU mc) (hl : linesOK mc u) (ho : loopsOK mc u) {st : Nat → Int64} (hst : ∀ a, a < u → 0 ≤ (st a).toInt ∧ (st a).toInt ≤ 1000000000) :
    ∀ (k f : Nat) (mq : T_mq), k ≤ sz mc u → k < f → mq_from_ mq = nI (fi mc u) → mq_many mq = nI (sz mc u) → mq_steps mq = st → rdB mc u (wI st) (wI (mq_rounds mq)) k →
    ∃ mq' f', r_Mo_stepsOf_l7 n mc f mq (nI k - 1) = r_Mo_stepsOf_l7 n mc (f' + 1) mq' (-1) ∧ mq_from_ mq' = nI (fi mc u) ∧ mq_many mq' = nI (sz mc u) ∧ mq_steps mq' = st ∧ mq_depths mq' = mq_depths mq ∧ rdB mc u (wI st) (wI (mq_rounds mq')) 0 := by
  have hf := fi_le hc hu
  intro k
  induction k with
  | zero =>
    intro f mq _ hf' a b c d
    match f, hf' with
    | f + 1, _ => exact ⟨mq, f, rfl, a, b, c, rfl, d⟩
  | succ k ih =>
    intro f mq hk hf' hfr hmn hsteps hB
    match f, hf' with
    | f + 1, hf' =>
      have hks : k < sz mc u := by omega
      rw [nI_pred, r_Mo_stepsOf_l7, if_neg (lt0 (by omega)), mo_at hc hu hks hfr, Option.bind_some]
      have q1 : mc_numbers mc (fi mc u + k) = 13 ↔ uN mc u k = 13 := by rw [i_eq, k13]; rfl
      by_cases c : uN mc u k = 13
      · have lr := lst_rg hl ho hks c
        have rg : ∀ j, k < j → j < sz mc u → uN mc u j = 13 → -1 ≤ (mq_rounds mq j).toInt ∧ (mq_rounds mq j).toInt ≤ 2000000000 := fun j a b e => by
          obtain ⟨W, -, e2⟩ := hB j (by omega) b e
          have := bh_rg 1 (W (j + 1)); rw [← e2] at this; exact this
        rw [if_pos (q1.mpr c), mo_last hc hu hks hl c hfr, Option.bind_some]
        show ∃ mq' f', r_Mo_stepsOf_l27 n mc _ n mq (nI k) (nI (lst mc u k)) = _ ∧ _
        obtain ⟨g, f2, x, y⟩ := mo_l27 (n := n) (k7 := r_Mo_stepsOf_l7 n mc f) hc hu hl ho hks c (lst mc u k - k) n mq (by omega) (by omega) hfr hmn rg (by rw [hsteps]; exact hst) (fun i a b => absurd b (by omega))
        rw [show k + (lst mc u k - k) = lst mc u k by omega] at x
        rw [x, r_Mo_stepsOf_l27, if_pos (by rw [i_le]; omega), nI_1, gr_nI (by omega) (by decide)]
        have yk := y (k + 1) (by omega) (by omega)
        have yr := wayV_rg (mc := mc) (u := u) (rd := wI (mq_rounds mq)) (st := wI (mq_steps mq)) (T := wT mc u (wI g) (some k)) (c := some k) (k := k + 1)
        rw [← yk] at yr
        have yr2 : (g (k + 1)).toInt ≤ 2000000000 := yr.2
        obtain ⟨v, v1, v2⟩ := mo_behind (n := n) (a := 1) (b := g (k + 1)) (by rw [K1]; omega) (by omega)
        rw [K1] at v2
        show ∃ mq' f', ((r_Mo_behind n 1 (g (k + 1))).bind _) = _ ∧ _
        rw [v1, Option.bind_some, ga_nI (by omega) h31, nI_clamp (by omega), nI_m1 (by omega)]
        have same : ∀ i, k < i → wI (mq_rounds mq) i = wI (vp_updL (mq_rounds mq) k v) i := fun i hi => by unfold wI; rw [updL_ne (by omega)]
        have rowc : ∀ (j : Nat) (W : Nat → Int), k ≤ j → j < sz mc u → uN mc u j = 13 → bRow mc u (wI (mq_rounds mq)) (wI st) (some j) W (j + 1) (lst mc u j + 1) → bRow mc u (wI (vp_updL (mq_rounds mq) k v)) (wI st) (some j) W (j + 1) (lst mc u j + 1) := fun j W a b e hb i h1 h2 => by
          have := lst_rg hl ho b e
          rw [hb i h1 h2]; exact wayV_c hl (by omega) (fun _ _ _ => rfl) (same i (by omega))
        refine ih f (mq_rounds_s (mq_ways_s mq g) (vp_updL (mq_rounds mq) k v)) (by omega) (by omega) hfr hmn hsteps (fun j a b e => ?_)
        by_cases z : j = k
        · subst z
          refine ⟨wI g, rowc j _ a b e (by rw [← hsteps]; exact y), ?_⟩
          show (vp_updL (mq_rounds mq) j v j).toInt = _
          rw [updL_at, v2]; rfl
        · obtain ⟨W, w1, w2⟩ := hB j (by omega) b e
          refine ⟨W, rowc j W a b e w1, ?_⟩
          show wI (vp_updL (mq_rounds mq) k v) j = _
          rw [← same j (by omega)]; exact w2
      · rw [if_neg (fun z => c (q1.mp z)), nI_m1 (by omega)]
        refine ih f mq (by omega) (by omega) hfr hmn hsteps (fun j a b e => ?_)
        by_cases z : j = k
        · exact absurd (z ▸ e) c
        · exact hB j (by omega) b e
theorem mo_l81 {n : Nat} {mc : T_mc} (hc : CodeOK mc) {u : Nat} (hu : u < nU mc) (hl : linesOK mc u) (ho : loopsOK mc u) :
    ∀ (m f : Nat) (mq : T_mq), m ≤ sz mc u → m < f → mq_from_ mq = nI (fi mc u) → mq_many mq = nI (sz mc u) → (∀ j, j < sz mc u → uN mc u j = 13 → -1 ≤ (mq_rounds mq j).toInt ∧ (mq_rounds mq j).toInt ≤ 2000000000) → (∀ a, a < u → 0 ≤ (mq_steps mq a).toInt ∧ (mq_steps mq a).toInt ≤ 1000000000) →
    bRow mc u (wI (mq_rounds mq)) (wI (mq_steps mq)) none (wI (mq_ways mq)) m (sz mc u) →
    ∃ g f', r_Mo_stepsOf_l81 n mc f mq (nI m - 1) = r_Mo_stepsOf_l81 n mc (f' + 1) (mq_ways_s mq g) (-1) ∧ bRow mc u (wI (mq_rounds mq)) (wI (mq_steps mq)) none (wI g) 0 (sz mc u) := by
  have hf := fi_le hc hu
  intro m
  induction m with
  | zero =>
    intro f mq _ hf' _ _ _ _ hb
    match f, hf' with
    | f + 1, _ => exact ⟨mq_ways mq, f, rfl, hb⟩
  | succ m ih =>
    intro f mq hm hf' hfr hmn hr hst hb
    match f, hf' with
    | f + 1, hf' =>
      obtain ⟨v, e1, e2⟩ := mo_step (n := n) hc hu hl ho hfr hmn none (by intro h' e; cases e) (j := m) (show _ < sz mc u by omega) (fun e => hr _ (by omega) e) hst hb
      have e1' : r_Mo_way n mc mq (nI m) (-1) = some v := e1
      rw [nI_pred, r_Mo_stepsOf_l81, if_neg (lt0 (by omega)), e1', Option.bind_some, ga_nI (by omega) (by decide), nI_clamp (by omega), nI_m1 (by omega)]
      obtain ⟨g, f', x, y⟩ := ih f (mq_ways_s mq (vp_updL (mq_ways mq) m v)) (by omega) (by omega) hfr hmn hr hst e2
      exact ⟨g, f', x, y⟩
theorem mo_stepsOf {n : Nat} (hn : 5000 ≤ n) {mc : T_mc} (hc : CodeOK mc) {u : Nat} (hu : u < nU mc) (hl : linesOK mc u) (ho : loopsOK mc u) {mq : T_mq} (hfr : mq_from_ mq = nI (fi mc u)) (hmn : mq_many mq = nI (sz mc u)) (hst : ∀ a, a < u → 0 ≤ (mq_steps mq a).toInt ∧ (mq_steps mq a).toInt ≤ 1000000000) :
    ∃ v mq' rd W, r_Mo_stepsOf n mc mq = some (v, mq') ∧ mq_steps mq' = mq_steps mq ∧ rdB mc u (wI (mq_steps mq)) rd 0 ∧ bRow mc u rd (wI (mq_steps mq)) none W 0 (sz mc u) ∧ v.toInt = wT mc u W none 0 := by
  have hf := fi_le hc hu
  unfold r_Mo_stepsOf
  rw [hmn]
  obtain ⟨mq1, f1, a1, a2, a3, a4, a5, a6⟩ := mo_l7 hn hc hu hl ho hst (sz mc u) n mq (Nat.le_refl _) (by omega) hfr hmn rfl (fun j a b => absurd b (by omega))
  rw [a1, r_Mo_stepsOf_l7, if_pos (by decide), a3]
  obtain ⟨g, f', x, y⟩ := mo_l81 (n := n) hc hu hl ho (sz mc u) n mq1 (Nat.le_refl _) (by omega) a2 a3 (fun j b e => by
    obtain ⟨W, -, e2⟩ := a6 j (Nat.zero_le _) b e
    have := bh_rg 1 (W (j + 1)); rw [← e2] at this; exact this) (by rw [a4]; exact hst) (fun i a b => absurd b (by omega))
  rw [x, r_Mo_stepsOf_l81, if_pos (by decide), show mq_many (mq_ways_s mq1 g) = nI (sz mc u) from a3]
  rw [a4] at y
  by_cases z : nI (sz mc u) = 0
  · rw [if_pos z]
    rw [i_eq, nI_t (by omega), k0] at z
    exact ⟨_, _, _, wI g, rfl, a4, a6, y, by rw [K0]; exact (if_pos (by omega)).symm⟩
  · rw [if_neg z, show (0 : Int32) = nI 0 from rfl, gr_nI (by omega) (by decide)]
    rw [i_eq, nI_t (by omega), k0] at z
    exact ⟨_, _, _, wI g, rfl, a4, a6, y, (if_neg (by omega)).symm⟩
