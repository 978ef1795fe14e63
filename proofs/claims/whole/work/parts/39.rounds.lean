/-! the class's rounds and steps of a unit -/
theorem xE_c {mc : T_mc} {u k : Nat} {rd rd' st : Nat → Int} (h : rd k = rd' k) : xE mc u rd st k = xE mc u rd' st k := by unfold xE; rw [h]
theorem wR_rd {mc : T_mc} {u b : Nat} {rd rd' st : Nat → Int} : ∀ (m k : Nat) (r : Nat → Int), (∀ j, k ≤ j → j < k + m → rd j = rd' j) → wR mc u rd st b m k r = wR mc u rd' st b m k r := by
  intro m
  induction m with
  | zero => intro k r _; rfl
  | succ m ih =>
    intro k r h
    rw [wR, wR, xE_c (h k (Nat.le_refl _) (by omega)), ih (k + 1) _ (fun j a b => h j (by omega) (by omega)), ih (k + 1) _ (fun j a b => h j (by omega) (by omega))]
def lst (mc : T_mc) (u k : Nat) : Nat := (uB mc u k - 1).toNat
/-- a loop's own walk, from behind its 13 to its last instruction -/
def lW (mc : T_mc) (u : Nat) (rd st : Nat → Int) (k : Nat) : Nat → Int := wR mc u rd st (lst mc u k) (lst mc u k - (k + 1)) (k + 1) (r0 (k + 1))
def rdV (x : Int) : Int := if x = -1 then -1 else x + 2
/-- the rounds are right from k on -/
def rdOK (mc : T_mc) (u : Nat) (st : Nat → Int) (rd : Nat → Int) (k : Nat) : Prop := ∀ j, k ≤ j → j < sz mc u → uN mc u j = 13 → rd j = rdV (lW mc u rd st j (lst mc u j))
theorem lW_c {mc : T_mc} {u k : Nat} {rd rd' st : Nat → Int} (h : ∀ j, k < j → rd j = rd' j) : lW mc u rd st k = lW mc u rd' st k := wR_rd _ _ _ (fun j a _ => h j (by omega))
theorem lst_rg {mc : T_mc} {u k : Nat} (hl : linesOK mc u) (ho : loopsOK mc u) (hks : k < sz mc u) (e : uN mc u k = 13) : k + 1 ≤ lst mc u k ∧ lst mc u k < sz mc u ∧ (lst mc u k : Int) = uB mc u k - 1 := by
  have t := tgt13 hl hks e
  have nx := next_ok ho hks e
  have : lst mc u k ≠ k := fun z => by have := nx.2.2.2.1; unfold lst at z; rw [z, e] at this; exact absurd this (by decide)
  unfold lst at this ⊢
  omega
def wI (f : Nat → Int64) : Nat → Int := fun i => (f i).toInt
theorem wa_rounds_l {n : Nat} (hn : 5000 ≤ n) {ko : T_ko} {mc : T_mc} (hc : CodeOK mc) (hk : KoRel ko mc) {u : Nat} (hu : u < nU mc) (hl : linesOK mc u) (ho : loopsOK mc u) {st : Nat → Int64} (hst : ∀ a, a < u → -1 ≤ (st a).toInt ∧ (st a).toInt ≤ 1000000001) :
    ∀ (k f : Nat) (wa : T_wa), k ≤ sz mc u → k < f → wa_unit wa = nI u → wa_steps wa = st → (∀ i, i < 256 → -1 ≤ (wa_rounds wa i).toInt ∧ (wa_rounds wa i).toInt ≤ 1000000003) → rdOK mc u (wI st) (wI (wa_rounds wa)) k →
    ∃ wa' f', r_Wa_faultOf_l47 n ko f wa (nI (sz mc u)) (nI k - 1) = r_Wa_faultOf_l47 n ko (f' + 1) wa' (nI (sz mc u)) (-1) ∧ wa_unit wa' = nI u ∧ wa_steps wa' = st ∧ (∀ i, i < 256 → -1 ≤ (wa_rounds wa' i).toInt ∧ (wa_rounds wa' i).toInt ≤ 1000000003) ∧ rdOK mc u (wI st) (wI (wa_rounds wa')) 0 := by
  have hf := fi_le hc hu
  intro k
  induction k with
  | zero =>
    intro f wa _ b e2 e5 hrd h
    match f, b with
    | f + 1, _ => exact ⟨wa, f, rfl, e2, e5, hrd, h⟩
  | succ k ih =>
    intro f wa a b e2 e5 hrd h
    match f, b with
    | f + 1, b =>
      have hks : k < sz mc u := by omega
      have ek : nI (k + 1) - 1 = nI k := nI_pred k
      have ek2 : nI k + (-1) = nI k - 1 := by rw [i_eq, i_add (by rw [nI_t (by omega), km1]; omega) (by rw [nI_t (by omega), km1]; omega), i_sub (by rw [nI_t (by omega), k1]; omega) (by rw [nI_t (by omega), k1]; omega), km1, k1]; omega
      rw [ek, r_Wa_faultOf_l47, if_neg (lt0 (by omega)), e2, co_numberAt hc hk hu hks, Option.bind_some, ek2]
      have q1 : mc_numbers mc (fi mc u + k) = 13 ↔ uN mc u k = 13 := by rw [i_eq, k13]; rfl
      by_cases c : uN mc u k = 13
      · have lr := lst_rg hl ho hks c
        have eb : mc_bs mc (fi mc u + k) - 1 = nI (lst mc u k) := by
          have t' : (mc_bs mc (fi mc u + k)).toInt = uB mc u k := rfl
          rw [i_eq, i_sub (by rw [k1, t']; omega) (by rw [k1, t']; omega), nI_t (by omega), k1, t']; omega
        rw [if_pos (q1.mpr c), co_bAt hc hk hu hks, Option.bind_some, eb, nI_1]
        obtain ⟨w1, p1, p2, p3, p4, p5, p6⟩ := wa_walk hn hc hk hu hl ho lr.1 (show lst mc u k ≤ sz mc u by omega) e2 hrd (by rw [e5]; exact hst)
        rw [p1, Option.bind_some, if_neg (lt0 (by omega)), if_neg (by rw [i_le, nI_t (by omega), nI_t (by omega)]; omega), gr_nI (by omega) (by decide)]
        have ev : rch w1 (lst mc u k) = lW mc u (wI (wa_rounds wa)) (wI st) k (lst mc u k) := by rw [p5 _ (by omega), e5]; rfl
        have rg := p6 (lst mc u k) (by omega)
        have fin : ∀ v : Int64, v.toInt = rdV (lW mc u (wI (wa_rounds wa)) (wI st) k (lst mc u k)) → ∃ wa' f', r_Wa_faultOf_l47 n ko f (wa_rounds_s w1 (vp_updL (wa_rounds w1) k v)) (nI (sz mc u)) (nI k - 1) = r_Wa_faultOf_l47 n ko (f' + 1) wa' (nI (sz mc u)) (-1) ∧ wa_unit wa' = nI u ∧ wa_steps wa' = st ∧ (∀ i, i < 256 → -1 ≤ (wa_rounds wa' i).toInt ∧ (wa_rounds wa' i).toInt ≤ 1000000003) ∧ rdOK mc u (wI st) (wI (wa_rounds wa')) 0 := fun v hv => by
          have hv2 : -1 ≤ v.toInt ∧ v.toInt ≤ 1000000003 := by rw [hv, ← ev]; unfold rdV; split <;> omega
          refine ih f _ (by omega) (by omega) p2 (p4.trans e5) (fun i hi => ?_) (fun j hj hjs h13 => ?_)
          · show -1 ≤ (vp_updL (wa_rounds w1) k v i).toInt ∧ (vp_updL (wa_rounds w1) k v i).toInt ≤ _
            by_cases z : i = k
            · rw [z, updL_at]; exact hv2
            · rw [updL_ne z, p3]; exact hrd i hi
          · have cong : ∀ i, j < i → wI (vp_updL (wa_rounds w1) k v) i = wI (wa_rounds wa) i := fun i hi => by
              unfold wI; rw [updL_ne (by omega), p3]
            show wI (vp_updL (wa_rounds w1) k v) j = rdV (lW mc u (wI (vp_updL (wa_rounds w1) k v)) (wI st) j (lst mc u j))
            rw [lW_c cong]
            by_cases z : j = k
            · rw [z]; unfold wI; rw [updL_at]; exact hv
            · have := h j (by omega) hjs h13
              rw [← this]; unfold wI; rw [updL_ne z, p3]
        unfold r_Wa_faultOf_j117
        rw [ek2, ga_nI (by omega) h31, ga_nI (by omega) h31, nI_clamp (by omega)]
        by_cases m1 : rch w1 (lst mc u k) = -1
        · rw [if_pos (by rw [lc_eq, Km1]; exact m1)]
          exact fin (-1) (by rw [← ev, m1]; decide)
        · rw [if_neg (by rw [lc_eq, Km1]; exact m1)]
          refine fin _ ?_
          have q : (wa_reached w1 (lst mc u k)).toInt = rch w1 (lst mc u k) := rfl
          rw [l_add (by rw [q, K2]; omega) (by rw [q, K2]; omega), q, K2, ← ev]; unfold rdV; rw [if_neg m1]
      · rw [if_neg (fun z => c (q1.mp z))]
        refine ih f wa (by omega) (by omega) e2 e5 hrd (fun j hj hjs h13 => ?_)
        by_cases z : j = k
        · exact absurd (z ▸ h13) c
        · exact h j (by omega) hjs h13
