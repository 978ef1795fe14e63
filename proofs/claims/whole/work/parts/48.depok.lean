/-! the stack's proof: what the row of depths holds for every marked instruction -/
def sucD (S : Nat) (dm : Nat → Int32) (d : Int32) (t : Nat) : Prop := (t = S ∧ d = 0) ∨ (t < S ∧ dm t = d)
def ChkD (mc : T_mc) (u : Nat) (dm : Nat → Int32) (i : Nat) : Prop :=
  (tkn (uN mc u i).toNat).toInt ≤ (dm i).toInt ∧ (dB mc u i (dm i)).toInt ≤ 64 ∧ (gOn (uN mc u i) → sucD (sz mc u) dm (dB mc u i (dm i)) (i + 1)) ∧ ∀ t, uT mc u i = some t → sucD (sz mc u) dm (dB mc u i (dm i)) t
theorem cUp_keep {S : Nat} {dm : Nat → Int32} {t i : Nat} {d : Int32} (h : 0 ≤ (dm i).toInt) : cUp S dm t d i = dm i := by
  unfold cUp
  split
  · rename_i c; rw [upd_ne (fun z => by rw [z] at h; omega)]
  · rfl
theorem cUp_new {S : Nat} {dm : Nat → Int32} {t i : Nat} {d : Int32} (h : cUp S dm t d i ≠ dm i) : i = t := by
  unfold cUp at h
  split at h
  · exact Classical.byContradiction fun z => h (upd_ne z)
  · exact absurd rfl h
theorem cUp_suc {S : Nat} {dm : Nat → Int32} {t : Nat} {d : Int32} (ht : t ≤ S) (h : cOK S dm t d) : sucD S (cUp S dm t d) d t := by
  rcases h with h | ⟨h1, h2⟩
  · exact Or.inl h
  · refine Or.inr ⟨by omega, ?_⟩
    unfold cUp
    split
    · exact upd_at
    · rename_i c
      rcases h2 with h2 | h2
      · exact absurd ⟨by omega, h2⟩ c
      · exact h2
theorem d1_keep {mc : T_mc} {u k i : Nat} {dm : Nat → Int32} {d : Int32} (h : 0 ≤ (dm i).toInt) : d1 mc u k dm d i = dm i := by
  unfold d1; split
  · exact cUp_keep h
  · rfl
theorem dT_keep {mc : T_mc} {u k i : Nat} {dm : Nat → Int32} {d : Int32} (h : 0 ≤ (dm i).toInt) : dT mc u k dm d i = dm i := by
  cases e : uT mc u k with
  | none => rw [dT_none e]
  | some t => rw [dT_some e]; exact cUp_keep h
theorem d1_new {mc : T_mc} {u k i : Nat} {dm : Nat → Int32} {d : Int32} (h : d1 mc u k dm d i ≠ dm i) : i = k + 1 := by
  unfold d1 at h; split at h
  · exact cUp_new h
  · exact absurd rfl h
theorem dT_new {mc : T_mc} {u k i : Nat} {dm : Nat → Int32} {d : Int32} (h : dT mc u k dm d i ≠ dm i) : uT mc u k = some i := by
  cases e : uT mc u k with
  | none => rw [dT_none e] at h; exact absurd rfl h
  | some t => rw [dT_some e] at h; rw [cUp_new h]
/-- where an instruction goes forward, it stays out of loops that it is not in -/
theorem uT_in {mc : T_mc} {u k t h : Nat} (hl : linesOK mc u) (ho : loopsOK mc u) (hk : k < sz mc u) (e : uT mc u k = some t) (hh : h < sz mc u) (e13 : uN mc u h = 13) (h1 : h < t) (h2 : t ≤ lst mc u h) : k = h ∨ (h < k ∧ k ≤ lst mc u h) := by
  have lh := lst_rg hl ho hh e13
  unfold uT at e
  split at e
  · rename_i c
    have et := Option.some.inj e
    rcases c with c | c | c
    · have tg := tgt10 hl hk (Or.inl c)
      have := go_ok ho hk (Or.inl c) hh e13 (Or.inr ⟨by omega, by omega⟩)
      have q1 := this.1; have q2 := this.2; omega
    · have tg := tgt10 hl hk (Or.inr c)
      have := go_ok ho hk (Or.inr c) hh e13 (Or.inr ⟨by omega, by omega⟩)
      have q1 := this.1; have q2 := this.2; omega
    · obtain ⟨k0, a1, a2, a3, a4⟩ := back_ok hl ho hk c
      have tg := tgt14 hl hk c
      have nx := next_ok ho (show k0 < sz mc u by omega) a2
      have ea : uA mc u (lst mc u k0) = k0 := nx.2.2.2.2.1
      rw [a3] at ea
      have ek : t = k0 := by omega
      have := nest hl ho hh e13 (show k0 < sz mc u by omega) a2 (by omega) (by omega)
      omega
  · split at e
    · rename_i c
      have et := Option.some.inj e
      have lk := lst_rg hl ho hk c
      by_cases z : h ≤ k
      · omega
      · have := nest hl ho hk c hh e13 (by omega) (by omega); omega
    · split at e
      · have et := Option.some.inj e; omega
      · cases e
def ClD (mc : T_mc) (u : Nat) (dm : Nat → Int32) : Prop := ∀ h, h < sz mc u → uN mc u h = 13 → ∀ j, h < j → j ≤ lst mc u h → 0 ≤ (dm j).toInt → 0 ≤ (dm h).toInt
theorem stR_ok {mc : T_mc} {u : Nat} (hl : linesOK mc u) (ho : loopsOK mc u) : ∀ (m k : Nat) (dm : Nat → Int32), k + m = sz mc u → dVR (sz mc u) dm → ClD mc u dm → (∀ i, i < k → 0 ≤ (dm i).toInt → ChkD mc u dm i) → (stR mc u m k dm).1 = 0 →
    ∃ dF, dVR (sz mc u) dF ∧ (∀ i, 0 ≤ (dm i).toInt → dF i = dm i) ∧ ClD mc u dF ∧ ∀ i, i < sz mc u → 0 ≤ (dF i).toInt → ChkD mc u dF i := by
  intro m
  induction m with
  | zero => intro k dm e hV hC hP _; exact ⟨dm, hV, fun _ _ => rfl, hC, fun i hi => hP i (by omega)⟩
  | succ m ih =>
    intro k dm e hV hC hP h0
    have hks : k < sz mc u := by omega
    rw [stR] at h0
    by_cases c : (dm k).toInt < 0
    · rw [if_pos c] at h0
      exact ih (k + 1) dm (by omega) hV hC (fun i hi hm => by
        by_cases z : i = k
        · rw [z] at hm; omega
        · exact hP i (by omega) hm) h0
    rw [if_neg c] at h0
    by_cases c2 : sC mc u k dm = 0
    · rw [if_pos c2] at h0
      have hd : 0 ≤ (dm k).toInt ∧ (dm k).toInt ≤ 64 := by
        rcases hV k hks with z | z
        · rw [z] at c; exact absurd (by decide) c
        · exact z
      obtain ⟨s1, s2, s3, s4⟩ := sC_0 c2
      have hdB := dB_rg hl hks hd
      have nr := nu_rg hl hks
      have tr := tk_rg (uN mc u k).toNat (by omega)
      have d0 : 0 ≤ (dB mc u k (dm k)).toInt ∧ (dB mc u k (dm k)).toInt ≤ 64 := by omega
      have hV' := st_VR hl hks hV hd c2
      generalize ed : dB mc u k (dm k) = d at *
      -- both marks
      have keep : ∀ i, 0 ≤ (dm i).toInt → dT mc u k (d1 mc u k dm d) d i = dm i := fun i hi => by
        rw [dT_keep (by rw [d1_keep hi]; exact hi), d1_keep hi]
      have new : ∀ i, dT mc u k (d1 mc u k dm d) d i ≠ dm i → i = k + 1 ∨ uT mc u k = some i := fun i hi => by
        by_cases z : d1 mc u k dm d i = dm i
        · rw [← z] at hi; exact Or.inr (dT_new hi)
        · exact Or.inl (d1_new z)
      -- what is new lies behind
      have fwd : ∀ i, dT mc u k (d1 mc u k dm d) d i ≠ dm i → k < i := fun i hi => by
        rcases new i hi with z | z
        · omega
        · have z' := z
          unfold uT at z'
          split at z'
          · rename_i c
            have et := Option.some.inj z'
            rcases c with c | c | c
            · have := tgt10 hl hks (Or.inl c); omega
            · have := tgt10 hl hks (Or.inr c); omega
            · obtain ⟨k0, a1, a2, a3, a4⟩ := back_ok hl ho hks c
              have nx := next_ok ho (show k0 < sz mc u by omega) a2
              have ea : uA mc u (lst mc u k0) = k0 := nx.2.2.2.2.1
              rw [a3] at ea
              have ei : i = k0 := by omega
              have := hC k0 (by omega) a2 k a1 (by omega) hd.1
              rw [← ei] at this
              exact absurd (keep i this) hi
          · split at z'
            · rename_i c; have et := Option.some.inj z'; have := tgt13 hl hks c; omega
            · split at z'
              · have et := Option.some.inj z'; omega
              · cases z'
      have sucT : ∀ (t : Nat) (d' : Int32), 0 ≤ d'.toInt → sucD (sz mc u) dm d' t → sucD (sz mc u) (dT mc u k (d1 mc u k dm d) d) d' t := fun t d' h0' h => by
        rcases h with h | ⟨h1, h2⟩
        · exact Or.inl h
        · exact Or.inr ⟨h1, by rw [keep t (by rw [h2]; exact h0')]; exact h2⟩
      obtain ⟨dF, f1, f2, f3, f4⟩ := ih (k + 1) _ (by omega) hV' (fun h hh e13 j j1 j2 jm => by
        by_cases z : dT mc u k (d1 mc u k dm d) d j = dm j
        · rw [z] at jm
          have := hC h hh e13 j j1 j2 jm
          rw [keep h this]; exact this
        · have hk' : 0 ≤ (dm h).toInt := by
            have : k = h ∨ (h < k ∧ k ≤ lst mc u h) := by
              rcases new j z with w | w
              · omega
              · exact uT_in hl ho hks w hh e13 j1 j2
            rcases this with w | w
            · rw [← w]; exact hd.1
            · exact hC h hh e13 k w.1 w.2 hd.1
          rw [keep h hk']; exact hk') (fun i hi hm => by
        by_cases z : i = k
        · subst z
          have ek := keep i hd.1
          unfold ChkD
          rw [ek, ed]
          refine ⟨s1, s2, fun g => ?_, fun t et => ?_⟩
          · have := cUp_suc (show i + 1 ≤ sz mc u by omega) (s3 g)
            have e1 : d1 mc u i dm d = cUp (sz mc u) dm (i + 1) d := by unfold d1; rw [if_pos g]
            rcases this with w | ⟨w1, w2⟩
            · exact Or.inl w
            · refine Or.inr ⟨w1, ?_⟩
              rw [dT_keep (by rw [e1, w2]; exact d0.1), e1]; exact w2
          · have := cUp_suc (uT_le hl hks et) (s4 t et)
            rw [dT_some et]; exact this
        · have hm' : 0 ≤ (dm i).toInt := by
            by_cases w : dT mc u k (d1 mc u k dm d) d i = dm i
            · rw [← w]; exact hm
            · have := fwd i w; omega
          have ci := hP i (by omega) hm'
          have eki := keep i hm'
          have nri := nu_rg hl (show i < sz mc u by omega)
          have tri := tk_rg (uN mc u i).toNat (by omega)
          have hdi : 0 ≤ (dm i).toInt ∧ (dm i).toInt ≤ 64 := by
            rcases hV i (by omega) with w | w
            · rw [w] at hm'; exact absurd hm' (by decide)
            · exact w
          have hbi := dB_rg hl (show i < sz mc u by omega) hdi
          unfold ChkD
          rw [eki]
          have b0 : 0 ≤ (dB mc u i (dm i)).toInt := by have := ci.1; omega
          exact ⟨ci.1, ci.2.1, fun g => sucT _ _ b0 (ci.2.2.1 g), fun t et => sucT _ _ b0 (ci.2.2.2 t et)⟩) h0
      exact ⟨dF, f1, fun i hi => by rw [f2 i (by rw [keep i hi]; exact hi), keep i hi], f3, f4⟩
    · rw [if_neg c2] at h0; exact absurd h0 c2
theorem dep_ok {mc : T_mc} {u : Nat} (hl : linesOK mc u) (ho : loopsOK mc u) (h : (stR mc u (sz mc u) 0 dm0).1 = 0) : ∃ dF, dVR (sz mc u) dF ∧ dF 0 = 0 ∧ ∀ i, i < sz mc u → 0 ≤ (dF i).toInt → ChkD mc u dF i := by
  have z : ∀ i, 0 ≤ (dm0 i).toInt → i = 0 := fun i hi => Classical.byContradiction fun w => by
    unfold dm0 at hi; rw [if_neg w] at hi; exact absurd hi (by decide)
  obtain ⟨dF, f1, f2, -, f4⟩ := stR_ok hl ho (sz mc u) 0 dm0 (by omega) (dm0_VR _) (fun h hh e j j1 j2 jm => by have := z j jm; omega) (fun i hi => absurd hi (Nat.not_lt_zero i)) h
  exact ⟨dF, f1, (f2 0 (by decide)).trans rfl, f4⟩
