/-! the class's walk -/
theorem rL_c {b : Nat} {v : Int} {i : Nat} : ∀ (l : List (Int × Int)) (r r' : Nat → Int), r i = r' i → rL b v l r i = rL b v l r' i := by
  intro l
  induction l with
  | nil => intro r r' h; exact h
  | cons x l ih =>
    intro r r' h
    refine ih _ _ ?_
    unfold rT; rw [h]
theorem rL_rg {b : Nat} {v : Int} {i : Nat} : ∀ (l : List (Int × Int)) (r : Nat → Int), (∀ x, x ∈ l → 0 ≤ v + x.2) → -1 ≤ r i ∧ r i ≤ 1000000001 → -1 ≤ rL b v l r i ∧ rL b v l r i ≤ 1000000001 := by
  intro l
  induction l with
  | nil => intro r _ h; exact h
  | cons x l ih =>
    intro r hx h
    refine ih _ (fun y hy => hx y (List.mem_cons_of_mem _ hy)) ?_
    have := hx x List.mem_cons_self
    unfold rT mx cap
    (repeat' split) <;> omega
/-- weights are not below 0 -/
theorem xE_w {mc : T_mc} {u k : Nat} {rd st : Nat → Int} (hrd : -1 ≤ rd k) (hst : (uN mc u k = 15 ∨ uN mc u k = 16) → -1 ≤ st (uA mc u k).toNat) : ∀ x, x ∈ xE mc u rd st k → 0 ≤ x.2 := by
  intro x hx
  unfold xE at hx
  (repeat' split at hx) <;> (simp only [List.mem_cons, List.not_mem_nil, or_false] at hx)
  all_goals (first
    | (rcases hx with hx | hx <;> (subst hx; dsimp only; omega))
    | (subst hx; dsimp only; omega)
    | (subst hx; dsimp only; (have hm : 0 ≤ (uB mc u (k - 1) - 1) * rd k := Int.mul_nonneg (by omega) (by omega)); omega)
    | (subst hx; dsimp only; (have hm := hst (by assumption)); omega))
/-- m instructions from k on -/
def wR (mc : T_mc) (u : Nat) (rd st : Nat → Int) (b : Nat) : Nat → Nat → (Nat → Int) → (Nat → Int)
  | 0, _, r => r
  | m + 1, k, r => if r k = -1 then wR mc u rd st b m (k + 1) r else wR mc u rd st b m (k + 1) (rL b (r k) (xE mc u rd st k) r)
theorem wR_c {mc : T_mc} {u b : Nat} {rd st : Nat → Int} {i : Nat} (hi : i < 257) : ∀ (m k : Nat) (r r' : Nat → Int), k + m ≤ 257 → (∀ j, j < 257 → r j = r' j) → wR mc u rd st b m k r i = wR mc u rd st b m k r' i := by
  intro m
  induction m with
  | zero => intro k r r' _ h; exact h i hi
  | succ m ih =>
    intro k r r' hk h
    rw [wR, wR, h k (by omega)]
    split
    · exact ih (k + 1) r r' (by omega) h
    · exact ih (k + 1) _ _ (by omega) (fun j hj => rL_c _ _ _ (h j hj))
theorem wa_walk_l {n : Nat} {ko : T_ko} {mc : T_mc} (hc : CodeOK mc) (hk : KoRel ko mc) {u b : Nat} (hu : u < nU mc) (hl : linesOK mc u) (ho : loopsOK mc u) (hb : b ≤ sz mc u) {rd st : Nat → Int64} (hrd : ∀ i, i < 256 → -1 ≤ (rd i).toInt ∧ (rd i).toInt ≤ 1000000003) (hst : ∀ a, a < u → -1 ≤ (st a).toInt ∧ (st a).toInt ≤ 1000000001) :
    ∀ (m f k : Nat) (wa : T_wa), k + m = b → m < f → wa_unit wa = nI u → wa_end_ wa = nI b → wa_rounds wa = rd → wa_steps wa = st → (∀ i, i < 257 → -1 ≤ rch wa i ∧ rch wa i ≤ 1000000001) →
    ∃ wa', r_Wa_walk_l41 n ko f wa (nI b) (nI k) = some wa' ∧ wa_unit wa' = nI u ∧ wa_rounds wa' = rd ∧ wa_steps wa' = st ∧ (∀ i, i < 257 → rch wa' i = wR mc u (fun i => (rd i).toInt) (fun a => (st a).toInt) b m k (rch wa) i) ∧ ∀ i, i < 257 → -1 ≤ rch wa' i ∧ rch wa' i ≤ 1000000001 := by
  have hf := fi_le hc hu
  intro m
  induction m with
  | zero =>
    intro f k wa a e1 e2 e3 e4 e5 hr
    match f, e1 with
    | f + 1, _ =>
      rw [r_Wa_walk_l41, if_pos (by rw [i_le, nI_t (by omega), nI_t (by omega)]; omega)]
      exact ⟨wa, rfl, e2, e4, e5, fun i _ => rfl, hr⟩
  | succ m ih =>
    intro f k wa a e1 e2 e3 e4 e5 hr
    match f, e1 with
    | f + 1, e1 =>
      have hks : k < sz mc u := by omega
      rw [r_Wa_walk_l41, if_neg (by rw [i_le, nI_t (by omega), nI_t (by omega)]; omega), gr_nI (by omega) (by decide), gr_nI (by omega) (by decide), nI_1]
      have q : (wa_reached wa k).toInt = rch wa k := rfl
      by_cases c : rch wa k = -1
      · rw [if_pos (by rw [lc_eq, Km1]; exact c)]
        obtain ⟨wa', p⟩ := ih f (k + 1) wa (by omega) (by omega) e2 e3 e4 e5 hr
        exact ⟨wa', p.1, p.2.1, p.2.2.1, p.2.2.2.1, fun i hi => by rw [wR, if_pos c]; exact p.2.2.2.2.1 i hi, p.2.2.2.2.2⟩
      · rw [if_neg (by rw [lc_eq, Km1]; exact c)]
        have hk1 := hr k (by omega)
        have ev : (wa_reached wa k + 1).toInt = rch wa k + 1 := by rw [l_add (by rw [q, K1]; omega) (by rw [q, K1]; omega), q, K1]
        obtain ⟨g, x, y⟩ := wa_goOn (n := n) (v := wa_reached wa k + 1) hc hk hu hks hl ho e2 e3 (by omega) (fun i hi => (hr i hi).2) (by rw [e4]; exact hrd k (by omega)) (fun a ha => by rw [e5]; exact hst a ha) (by rw [ev]; omega)
        rw [x, Option.bind_some]
        rw [ev, show rch wa k + 1 - 1 = rch wa k by omega, e4, e5] at y
        have hr' : ∀ i, i < 257 → -1 ≤ rch (wa_reached_s wa g) i ∧ rch (wa_reached_s wa g) i ≤ 1000000001 := fun i hi => by
          show -1 ≤ (g i).toInt ∧ (g i).toInt ≤ _
          rw [y i hi]
          refine rL_rg _ _ (fun z hz => ?_) (hr i hi)
          have := xE_w (hrd k (by omega)).1 (fun h => (hst _ (by have := call_rg hl hks h; omega)).1) z hz
          omega
        obtain ⟨wa', p⟩ := ih f (k + 1) (wa_reached_s wa g) (by omega) (by omega) e2 e3 e4 e5 hr'
        refine ⟨wa', p.1, p.2.1, p.2.2.1, p.2.2.2.1, fun i hi => ?_, p.2.2.2.2.2⟩
        rw [wR, if_neg c, p.2.2.2.2.1 i hi]
        exact wR_c hi m (k + 1) _ _ (by omega) (fun j hj => y j hj)
def r0 (a : Nat) : Nat → Int := fun i => if i = a then 0 else -1
theorem wa_walk {n : Nat} (hn : 5000 ≤ n) {ko : T_ko} {mc : T_mc} (hc : CodeOK mc) (hk : KoRel ko mc) {u a b : Nat} (hu : u < nU mc) (hl : linesOK mc u) (ho : loopsOK mc u) (hab : a ≤ b) (hb : b ≤ sz mc u) {wa : T_wa} (e2 : wa_unit wa = nI u) (hrd : ∀ i, i < 256 → -1 ≤ (wa_rounds wa i).toInt ∧ (wa_rounds wa i).toInt ≤ 1000000003) (hst : ∀ a, a < u → -1 ≤ (wa_steps wa a).toInt ∧ (wa_steps wa a).toInt ≤ 1000000001) :
    ∃ wa', r_Wa_walk n ko wa (nI a) (nI b) = some wa' ∧ wa_unit wa' = nI u ∧ wa_rounds wa' = wa_rounds wa ∧ wa_steps wa' = wa_steps wa ∧ (∀ i, i < 257 → rch wa' i = wR mc u (fun i => (wa_rounds wa i).toInt) (fun a => (wa_steps wa a).toInt) b (b - a) a (r0 a) i) ∧ ∀ i, i < 257 → -1 ≤ rch wa' i ∧ rch wa' i ≤ 1000000001 := by
  have hf := fi_le hc hu
  unfold r_Wa_walk
  rw [if_neg (lt0 (by omega)), if_neg (by rw [i_lt, nI_t (by omega), nI_t (by omega)]; omega), if_pos (by rw [i_le, nI_t (by omega)]; show _ ≤ (256 : Int); omega), ga_nI (by omega) (by decide), nI_clamp (by omega)]
  have row : ∀ i, (vp_updL (fun _ => (-1 : Int64)) a 0 i).toInt = r0 a i := fun i => by
    unfold r0
    by_cases z : i = a
    · rw [z, updL_at, if_pos rfl]; decide
    · rw [updL_ne z, if_neg z]; decide
  obtain ⟨wa', p⟩ := wa_walk_l (n := n) hc hk hu hl ho hb hrd hst (b - a) n a (wa_reached_s (wa_reached_s (wa_end__s wa (nI b)) (fun _ => (-1 : Int64))) (vp_updL (wa_reached (wa_reached_s (wa_end__s wa (nI b)) (fun _ => (-1 : Int64)))) a (0 : Int64))) (by omega) (by omega) e2 rfl rfl rfl (fun i hi => by
    show -1 ≤ (vp_updL (fun _ => (-1 : Int64)) a 0 i).toInt ∧ (vp_updL (fun _ => (-1 : Int64)) a 0 i).toInt ≤ _
    rw [row]; unfold r0; split <;> omega)
  exact ⟨wa', p.1, p.2.1, p.2.2.1, p.2.2.2.1, fun i hi => by rw [p.2.2.2.2.1 i hi]; exact wR_c hi _ _ _ _ (by omega) (fun j _ => row j), p.2.2.2.2.2⟩
