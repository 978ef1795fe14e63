/-! the stack: a unit's run, both sides -/
theorem dB_rg {mc : T_mc} {u k : Nat} (hl : linesOK mc u) (hks : k < sz mc u) {d : Int32} (hd : 0 ≤ d.toInt ∧ d.toInt ≤ 64) : (dB mc u k d).toInt = d.toInt - (tkn (uN mc u k).toNat).toInt + (lft (uN mc u k).toNat).toInt := by
  have nr := nu_rg hl hks
  have tr := tk_rg (uN mc u k).toNat (by omega)
  have es : (d - tkn (uN mc u k).toNat).toInt = d.toInt - (tkn (uN mc u k).toNat).toInt := i_sub (by omega) (by omega)
  unfold dB; rw [i_add (by omega) (by omega), es]
theorem d1_VR {mc : T_mc} {u k : Nat} {dm : Nat → Int32} {d : Int32} (h : dVR (sz mc u) dm) (hd : 0 ≤ d.toInt ∧ d.toInt ≤ 64) : dVR (sz mc u) (d1 mc u k dm d) := by
  unfold d1
  split
  · exact cUp_VR h hd
  · exact h
theorem dT_VR {mc : T_mc} {u k : Nat} {dm : Nat → Int32} {d : Int32} (h : dVR (sz mc u) dm) (hd : 0 ≤ d.toInt ∧ d.toInt ≤ 64) : dVR (sz mc u) (dT mc u k dm d) := by
  unfold dT
  split
  · exact h
  · exact cUp_VR h hd
theorem de_stk {n : Nat} {ko : T_ko} {mc : T_mc} {de : T_de} {dm : Nat → Int32} (hc : CodeOK mc) (hk : KoRel ko mc) {u k : Nat} (hu : u < nU mc) (hks : k < sz mc u) (hl : linesOK mc u) (hV : dVR (sz mc u) dm) (hR : dDR (sz mc u) de dm) (hd : 0 ≤ (dm k).toInt ∧ (dm k).toInt ≤ 64) :
    ∃ de', r_De_faultAt n ko de (nI u) (nI k) (dm k) = some (sC mc u k dm, de') ∧ (sC mc u k dm = 0 → dDR (sz mc u) de' (dT mc u k (d1 mc u k dm (dB mc u k (dm k))) (dB mc u k (dm k)))) := by
  have hf := fi_le hc hu
  have nr := nu_rg hl hks
  have hj : (uN mc u k).toNat < 19 := by omega
  have en : mc_numbers mc (fi mc u + k) = nI (uN mc u k).toNat := i_nat nr.1
  have tr := tk_rg (uN mc u k).toNat hj
  have uq : ∀ (w : Int32), mc_numbers mc (fi mc u + k) = w ↔ uN mc u k = w.toInt := fun w => by rw [i_eq]; rfl
  have eB := dB_rg hl hks hd
  have gT : ∀ {β : Type} (f : Nat → Int32) (g : Int32 → Option β), gr f (mc_numbers mc (fi mc u + k)) 19 g = g (f (uN mc u k).toNat) := fun f g => by rw [en]; exact gr_nI hj (by decide)
  unfold r_De_faultAt
  rw [co_numberAt hc hk hu hks, Option.bind_some]
  simp only [gT]
  rw [if_neg (by rw [i_lt, k0]; show ¬ uN mc u k < 0; omega), if_neg (by rw [i_le]; show ¬ (19 : Int) ≤ uN mc u k; omega), if_neg (by rw [i_le]; show ¬ (19 : Int) ≤ uN mc u k; omega)]
  unfold sC
  by_cases c8 : (dm k).toInt < (tkn (uN mc u k).toNat).toInt
  · rw [if_neg (by rw [i_le]; omega), cI_t c8]; exact ⟨de, rfl, fun h => absurd h (by decide)⟩
  rw [if_pos (by rw [i_le]; omega), cI_f c8]
  show ∃ de', (if dB mc u k (dm k) ≤ 64 then _ else _) = _ ∧ _
  by_cases c9 : 64 < (dB mc u k (dm k)).toInt
  · rw [if_neg (by rw [i_le]; show ¬ _ ≤ (64 : Int); omega), cI_t c9]; exact ⟨de, rfl, fun h => absurd h (by decide)⟩
  rw [if_pos (by rw [i_le]; show _ ≤ (64 : Int); omega), cI_f c9]
  have dpos : 0 ≤ (dB mc u k (dm k)).toInt := by omega
  have dle : (dB mc u k (dm k)).toInt ≤ 64 := by omega
  have off : ¬ gOn (uN mc u k) → ∃ de', r_De_faultAt_j99 n ko de (nI u) (nI k) (mc_numbers mc (fi mc u + k)) (dB mc u k (dm k)) = some (cI (sOK mc u k dm (dB mc u k (dm k))) 0 10, de') ∧ (cI (sOK mc u k dm (dB mc u k (dm k))) 0 10 = 0 → dDR (sz mc u) de' (dT mc u k (d1 mc u k dm (dB mc u k (dm k))) (dB mc u k (dm k)))) := by
    intro ng
    have e1 : d1 mc u k dm (dB mc u k (dm k)) = dm := if_neg ng
    obtain ⟨de', a, b⟩ := de_tail (n := n) hc hk hu hks hl hV hR dpos
    have eo : tOK mc u k dm (dB mc u k (dm k)) ↔ sOK mc u k dm (dB mc u k (dm k)) := by
      unfold sOK; rw [e1]; exact ⟨fun h => ⟨fun g => absurd g ng, h⟩, fun h => h.2⟩
    rw [propext eo] at a b
    unfold r_De_faultAt_j99 r_De_faultAt_j100
    rw [if_pos rfl]
    refine ⟨de', a, fun h => ?_⟩
    rw [e1]
    refine b (Classical.byContradiction fun z => ?_)
    rw [cI_f z] at h; exact absurd h (by decide)
  by_cases c10 : mc_numbers mc (fi mc u + k) = 10
  · rw [if_pos c10]; exact off (fun g => g.1 (by rw [uq, k10] at c10; exact c10))
  rw [if_neg c10]
  by_cases c14 : mc_numbers mc (fi mc u + k) = 14
  · rw [if_pos c14]; exact off (fun g => g.2.1 (by rw [uq, k14] at c14; exact c14))
  rw [if_neg c14]
  by_cases c18 : mc_numbers mc (fi mc u + k) = 18
  · rw [if_pos c18]; exact off (fun g => g.2.2 (by rw [uq, k18] at c18; exact c18))
  rw [if_neg c18]
  have g : gOn (uN mc u k) := ⟨fun z => c10 (by rw [uq, k10]; exact z), fun z => c14 (by rw [uq, k14]; exact z), fun z => c18 (by rw [uq, k18]; exact z)⟩
  have e1 : d1 mc u k dm (dB mc u k (dm k)) = cUp (sz mc u) dm (k + 1) (dB mc u k (dm k)) := if_pos g
  obtain ⟨de1, x1, x2⟩ := de_agrees (n := n) (t := k + 1) (by omega) (by omega) hV hR dpos
  obtain ⟨de', a, b⟩ := de_tail (n := n) hc hk hu hks hl (cUp_VR hV ⟨dpos, dle⟩) x2 dpos
  show ∃ de', r_De_faultAt_j100 n ko de (nI u) (nI k) (mc_numbers mc (fi mc u + k)) (dB mc u k (dm k)) 1 = _ ∧ _
  unfold r_De_faultAt_j100
  rw [if_neg (by decide), nI_1, x1, Option.bind_some]
  dsimp only
  by_cases o1 : cOK (sz mc u) dm (k + 1) (dB mc u k (dm k))
  · have eo : tOK mc u k (cUp (sz mc u) dm (k + 1) (dB mc u k (dm k))) (dB mc u k (dm k)) ↔ sOK mc u k dm (dB mc u k (dm k)) := by
      unfold sOK; rw [e1]; exact ⟨fun h => ⟨fun _ => o1, h⟩, fun h => h.2⟩
    rw [if_neg (by rw [tv_t o1]; decide), a, propext eo]
    rw [propext eo] at b
    refine ⟨de', rfl, fun h => ?_⟩
    rw [e1]
    refine b (Classical.byContradiction fun z => ?_)
    rw [cI_f z] at h; exact absurd h (by decide)
  · rw [if_pos (tv_f o1), cI_f (fun z => o1 (z.1 g))]
    exact ⟨de1, rfl, fun h => absurd h (by decide)⟩
/-- m instructions from k on: the fault, and the depths behind them -/
noncomputable def stR (mc : T_mc) (u : Nat) : Nat → Nat → (Nat → Int32) → Int32 × (Nat → Int32)
  | 0, _, dm => (0, dm)
  | m + 1, k, dm => if (dm k).toInt < 0 then stR mc u m (k + 1) dm else if sC mc u k dm = 0 then stR mc u m (k + 1) (dT mc u k (d1 mc u k dm (dB mc u k (dm k))) (dB mc u k (dm k))) else (sC mc u k dm, dm)
theorem sC_ge (mc : T_mc) (u k : Nat) (dm : Nat → Int32) : 0 ≤ (sC mc u k dm).toInt := by
  unfold sC cI
  (repeat' split) <;> decide
theorem sC_0 {mc : T_mc} {u k : Nat} {dm : Nat → Int32} (h : sC mc u k dm = 0) : (tkn (uN mc u k).toNat).toInt ≤ (dm k).toInt ∧ (dB mc u k (dm k)).toInt ≤ 64 ∧ sOK mc u k dm (dB mc u k (dm k)) := by
  unfold sC at h
  have a : ¬ (dm k).toInt < (tkn (uN mc u k).toNat).toInt := fun q => by rw [cI_t q] at h; exact absurd h (by decide)
  rw [cI_f a] at h
  have b : ¬ 64 < (dB mc u k (dm k)).toInt := fun q => by rw [cI_t q] at h; exact absurd h (by decide)
  rw [cI_f b] at h
  exact ⟨by omega, by omega, Classical.byContradiction fun q => by rw [cI_f q] at h; exact absurd h (by decide)⟩
theorem st_VR {mc : T_mc} {u k : Nat} {dm : Nat → Int32} (hl : linesOK mc u) (hks : k < sz mc u) (hV : dVR (sz mc u) dm) (hd : 0 ≤ (dm k).toInt ∧ (dm k).toInt ≤ 64) (h : sC mc u k dm = 0) : dVR (sz mc u) (dT mc u k (d1 mc u k dm (dB mc u k (dm k))) (dB mc u k (dm k))) := by
  have s := sC_0 h
  have e := dB_rg hl hks hd
  have nr := nu_rg hl hks
  have tr := tk_rg (uN mc u k).toNat (by omega)
  exact dT_VR (d1_VR hV ⟨by omega, s.2.1⟩) ⟨by omega, s.2.1⟩
theorem de_run {n : Nat} {ko : T_ko} {mc : T_mc} (hc : CodeOK mc) (hk : KoRel ko mc) {u : Nat} (hu : u < nU mc) (hl : linesOK mc u) : ∀ (m f k : Nat) (de : T_de) (dm : Nat → Int32), k + m = sz mc u → m < f → dVR (sz mc u) dm → dDR (sz mc u) de dm → ∃ de', r_De_faultOf_l43 n ko f de (nI u) (nI (sz mc u)) (nI k) = some ((stR mc u m k dm).1, de') := by
  have hf := fi_le hc hu
  intro m
  induction m with
  | zero =>
    intro f k de dm a b hV hR
    match f, b with
    | f + 1, _ =>
      rw [r_De_faultOf_l43, if_pos (by rw [i_le, nI_t (by omega), nI_t (by omega)]; omega)]
      exact ⟨de, rfl⟩
  | succ m ih =>
    intro f k de dm a b hV hR
    match f, b with
    | f + 1, b =>
      have hks : k < sz mc u := by omega
      rw [r_De_faultOf_l43, if_neg (by rw [i_le, nI_t (by omega), nI_t (by omega)]; omega), gr_nI (by omega) (by decide), gr_nI (by omega) (by decide), hR.1 k hks, stR]
      rcases hV k hks with v | v
      · rw [if_pos v, if_pos (by rw [v, km1]; omega), nI_1]
        exact ih f (k + 1) de dm (by omega) (by omega) hV hR
      · obtain ⟨de', x, y⟩ := de_stk (n := n) hc hk hu hks hl hV hR v
        rw [if_neg (by rw [i_eq, km1]; omega), if_neg (by omega), x, Option.bind_some]
        dsimp only
        by_cases z : sC mc u k dm = 0
        · rw [if_pos z, if_pos z, nI_1]
          exact ih f (k + 1) de' _ (by omega) (by omega) (st_VR hl hks hV v z) (y z)
        · rw [if_neg z, if_neg z]; exact ⟨de', rfl⟩
def dm0 : Nat → Int32 := fun i => if i = 0 then 0 else -1
theorem dm0_VR (S : Nat) : dVR S dm0 := fun i _ => by
  unfold dm0; split
  · exact Or.inr (by decide)
  · exact Or.inl rfl
theorem stR_c {mc : T_mc} {u : Nat} (hl : linesOK mc u) : ∀ (m k : Nat) (dm dm' : Nat → Int32), k + m = sz mc u → (∀ i, i < sz mc u → dm i = dm' i) → True := fun _ _ _ _ _ _ => trivial
theorem de_fault {n : Nat} (hn : 5000 ≤ n) {ko : T_ko} {mc : T_mc} (hc : CodeOK mc) (hk : KoRel ko mc) {u : Nat} (hu : u < nU mc) (hl : linesOK mc u) (de : T_de) : ∃ de', r_De_faultOf n ko de (nI u) = some ((stR mc u (sz mc u) 0 dm0).1, de') := by
  have hf := fi_le hc hu
  unfold r_De_faultOf
  rw [co_size hc hk hu, Option.bind_some, if_pos (by rw [i_le, nI_t (by omega)]; show _ ≤ (256 : Int); omega), show (0 : Int32) = nI 0 from rfl, ga_nI (by omega) (by decide), ga_nI (by omega) (by decide), nI_clamp (by omega), nI_clamp (by omega)]
  refine de_run hc hk hu hl (sz mc u) n 0 _ dm0 (by omega) (by omega) (dm0_VR _) ⟨fun i hi => ?_, ?_⟩
  · show upd (upd (fun _ => -1) 0 (nI 0)) (sz mc u) (nI 0) i = dm0 i
    rw [upd_ne (by omega)]; unfold upd dm0; rfl
  · show upd (upd (fun _ => -1) 0 (nI 0)) (sz mc u) (nI 0) (sz mc u) = 0
    rw [upd_at]; rfl
