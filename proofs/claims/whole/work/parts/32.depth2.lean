/-! the stack: one instruction, both sides -/
noncomputable def dT (mc : T_mc) (u k : Nat) (dm1 : Nat → Int32) (d : Int32) : Nat → Int32 := match uT mc u k with | none => dm1 | some t => cUp (sz mc u) dm1 t d
def tOK (mc : T_mc) (u k : Nat) (dm1 : Nat → Int32) (d : Int32) : Prop := ∀ t, uT mc u k = some t → cOK (sz mc u) dm1 t d
theorem tOK_some {mc : T_mc} {u k t : Nat} {dm1 : Nat → Int32} {d : Int32} (h : uT mc u k = some t) : tOK mc u k dm1 d ↔ cOK (sz mc u) dm1 t d := ⟨fun z => z t h, fun z t' h' => by rw [h] at h'; cases h'; exact z⟩
theorem tOK_none {mc : T_mc} {u k : Nat} {dm1 : Nat → Int32} {d : Int32} (h : uT mc u k = none) : tOK mc u k dm1 d := fun t h' => by rw [h] at h'; cases h'
theorem dT_some {mc : T_mc} {u k t : Nat} {dm1 : Nat → Int32} {d : Int32} (h : uT mc u k = some t) : dT mc u k dm1 d = cUp (sz mc u) dm1 t d := by unfold dT; rw [h]
theorem dT_none {mc : T_mc} {u k : Nat} {dm1 : Nat → Int32} {d : Int32} (h : uT mc u k = none) : dT mc u k dm1 d = dm1 := by unfold dT; rw [h]
theorem mo_tail {n : Nat} {mc : T_mc} {mq : T_mq} (hc : CodeOK mc) {u k : Nat} (hu : u < nU mc) (hks : k < sz mc u) (hl : linesOK mc u) (hfr : mq_from_ mq = nI (fi mc u)) (hmn : mq_many mq = nI (sz mc u)) (d : Int32) (ok1 : Prop) (h18 : uN mc u k = 18 → ok1) :
    ∃ dm', r_Mo_stackFault_j76 n mc mq (nI k) (mc_numbers mc (fi mc u + k)) d (tv ok1) = some (cI (ok1 ∧ tOK mc u k (mq_depths mq) d) 0 10, mq_depths_s mq dm') ∧ (ok1 ∧ tOK mc u k (mq_depths mq) d → dm' = dT mc u k (mq_depths mq) d) := by
  have hf := fi_le hc hu
  have h256 := hc.2.2.2.1
  have uq : ∀ (w : Int32), mc_numbers mc (fi mc u + k) = w ↔ uN mc u k = w.toInt := fun w => by rw [i_eq]; rfl
  have j162 : uN mc u k ≠ 18 → ∀ (m : T_mq) (ok : Prop), r_Mo_stackFault_j162 n mc m (mc_numbers mc (fi mc u + k)) d (tv ok) = some (cI ok 0 10, m) := fun h m ok => by
    unfold r_Mo_stackFault_j162
    rw [if_neg (by rw [uq, k18]; exact h)]
    by_cases q : ok
    · rw [if_neg (by rw [tv_t q]; decide), cI_t q]
    · rw [if_pos (tv_f q), cI_f q]
  have g : ∀ (t : Nat) (m : T_mq) (ok2 : Prop), uT mc u k = some t → (ok2 ↔ (ok1 ∧ cOK (sz mc u) (mq_depths mq) t d)) → m = mq_depths_s mq (cUp (sz mc u) (mq_depths mq) t d) → ∃ dm', (some (cI ok2 0 10, m) : Option (Int32 × T_mq)) = some (cI (ok1 ∧ tOK mc u k (mq_depths mq) d) 0 10, mq_depths_s mq dm') ∧ (ok1 ∧ tOK mc u k (mq_depths mq) d → dm' = dT mc u k (mq_depths mq) d) := fun t m ok2 ht ho hm =>
    ⟨cUp (sz mc u) (mq_depths mq) t d, by rw [hm, propext ho, propext (tOK_some ht)], fun _ => (dT_some ht).symm⟩
  unfold r_Mo_stackFault_j76 r_Mo_stackFault_j94 r_Mo_stackFault_j122 r_Mo_stackFault_j123 r_Mo_stackFault_j125 r_Mo_stackFault_j159 r_Mo_stackFault_j160
  rw [hfr, nI_add, gr_nI (by omega) h31, gr_nI (by omega) h31]
  have a3 : (uN mc u k = 10 ∨ uN mc u k = 11 ∨ uN mc u k = 14) → 0 ≤ uA mc u k ∧ uA mc u k ≤ sz mc u := by
    rintro (c | c | c)
    · have := tgt10 hl hks (Or.inl c); omega
    · have := tgt10 hl hks (Or.inr c); omega
    · have := tgt14 hl hks c; omega
  have body : (uN mc u k = 10 ∨ uN mc u k = 11 ∨ uN mc u k = 14) → ∃ dm', ((r_Mo_comes n mq (mc_as_ mc (fi mc u + k)) d).bind fun q12 =>
      if q12.1 = 0 then (if mc_numbers mc (fi mc u + k) = 13 then gr (mc_bs mc) (mq_from_ q12.2 + nI k) 256 fun v6 => (r_Mo_comes n q12.2 v6 d).bind fun q7 => if q7.1 = 0 then r_Mo_stackFault_j162 n mc q7.2 (mc_numbers mc (fi mc u + k)) d 0 else if (0 : Int32) = 0 then r_Mo_stackFault_j162 n mc q7.2 (mc_numbers mc (fi mc u + k)) d 0 else r_Mo_stackFault_j162 n mc q7.2 (mc_numbers mc (fi mc u + k)) d 1 else r_Mo_stackFault_j162 n mc q12.2 (mc_numbers mc (fi mc u + k)) d 0)
      else if tv ok1 = 0 then (if mc_numbers mc (fi mc u + k) = 13 then gr (mc_bs mc) (mq_from_ q12.2 + nI k) 256 fun v6 => (r_Mo_comes n q12.2 v6 d).bind fun q7 => if q7.1 = 0 then r_Mo_stackFault_j162 n mc q7.2 (mc_numbers mc (fi mc u + k)) d 0 else if (0 : Int32) = 0 then r_Mo_stackFault_j162 n mc q7.2 (mc_numbers mc (fi mc u + k)) d 0 else r_Mo_stackFault_j162 n mc q7.2 (mc_numbers mc (fi mc u + k)) d 1 else r_Mo_stackFault_j162 n mc q12.2 (mc_numbers mc (fi mc u + k)) d 0)
      else (if mc_numbers mc (fi mc u + k) = 13 then gr (mc_bs mc) (mq_from_ q12.2 + nI k) 256 fun v6 => (r_Mo_comes n q12.2 v6 d).bind fun q7 => if q7.1 = 0 then r_Mo_stackFault_j162 n mc q7.2 (mc_numbers mc (fi mc u + k)) d 0 else if (1 : Int32) = 0 then r_Mo_stackFault_j162 n mc q7.2 (mc_numbers mc (fi mc u + k)) d 0 else r_Mo_stackFault_j162 n mc q7.2 (mc_numbers mc (fi mc u + k)) d 1 else r_Mo_stackFault_j162 n mc q12.2 (mc_numbers mc (fi mc u + k)) d 1)) = some (cI (ok1 ∧ tOK mc u k (mq_depths mq) d) 0 10, mq_depths_s mq dm') ∧ (ok1 ∧ tOK mc u k (mq_depths mq) d → dm' = dT mc u k (mq_depths mq) d) := by
    intro c
    have r := a3 c
    have ea : mc_as_ mc (fi mc u + k) = nI (uA mc u k).toNat := i_nat r.1
    have ht : uT mc u k = some (uA mc u k).toNat := by unfold uT; rw [if_pos c]
    have n13 : ¬ mc_numbers mc (fi mc u + k) = 13 := by rw [uq, k13]; omega
    have n18 : uN mc u k ≠ 18 := by omega
    rw [ea, mo_comes (by omega) hmn (by omega), Option.bind_some]
    simp only [if_neg n13]
    have z1 := j162 n18 (mq_depths_s mq (cUp (sz mc u) (mq_depths mq) (uA mc u k).toNat d)) True
    have z0 := j162 n18 (mq_depths_s mq (cUp (sz mc u) (mq_depths mq) (uA mc u k).toNat d)) False
    rw [tv_t trivial, cI_t trivial] at z1
    rw [tv_f (fun h => h), cI_f (fun h => h)] at z0
    rw [z0, z1]
    by_cases o2 : cOK (sz mc u) (mq_depths mq) (uA mc u k).toNat d
    · rw [if_neg (by rw [tv_t o2]; decide)]
      by_cases o1 : ok1
      · rw [if_neg (by rw [tv_t o1]; decide)]
        have := g _ _ True ht ⟨fun _ => ⟨o1, o2⟩, fun _ => trivial⟩ rfl
        rw [cI_t trivial] at this; exact this
      · rw [if_pos (tv_f o1)]
        have := g _ _ False ht ⟨False.elim, fun h => o1 h.1⟩ rfl
        rw [cI_f (fun h => h)] at this; exact this
    · rw [if_pos (tv_f o2)]
      have := g _ _ False ht ⟨False.elim, fun h => o2 h.2⟩ rfl
      rw [cI_f (fun h => h)] at this; exact this
  by_cases c10 : mc_numbers mc (fi mc u + k) = 10
  · rw [if_pos c10]; exact body (Or.inl (by rw [uq, k10] at c10; exact c10))
  rw [if_neg c10]
  by_cases c11 : mc_numbers mc (fi mc u + k) = 11
  · rw [if_pos c11]; exact body (Or.inr (Or.inl (by rw [uq, k11] at c11; exact c11)))
  rw [if_neg c11]
  by_cases c14 : mc_numbers mc (fi mc u + k) = 14
  · rw [if_pos c14]; exact body (Or.inr (Or.inr (by rw [uq, k14] at c14; exact c14)))
  rw [if_neg c14]
  have e10 : uN mc u k ≠ 10 := fun z => c10 (by rw [uq, k10]; exact z)
  have e11 : uN mc u k ≠ 11 := fun z => c11 (by rw [uq, k11]; exact z)
  have e14 : uN mc u k ≠ 14 := fun z => c14 (by rw [uq, k14]; exact z)
  by_cases c13 : mc_numbers mc (fi mc u + k) = 13
  · have d13 : uN mc u k = 13 := by rw [uq, k13] at c13; exact c13
    have t := tgt13 hl hks d13
    have eb : mc_bs mc (fi mc u + k) = nI (uB mc u k).toNat := i_nat (by show 0 ≤ uB mc u k; omega)
    have ht : uT mc u k = some (uB mc u k).toNat := by unfold uT; rw [if_neg (by omega), if_pos d13]
    have n18 : uN mc u k ≠ 18 := by omega
    rw [if_pos c13, eb, mo_comes (by omega) hmn (by omega), Option.bind_some]
    dsimp only
    have z1 := j162 n18 (mq_depths_s mq (cUp (sz mc u) (mq_depths mq) (uB mc u k).toNat d)) True
    have z0 := j162 n18 (mq_depths_s mq (cUp (sz mc u) (mq_depths mq) (uB mc u k).toNat d)) False
    rw [tv_t trivial, cI_t trivial] at z1
    rw [tv_f (fun h => h), cI_f (fun h => h)] at z0
    rw [z0, z1]
    by_cases o2 : cOK (sz mc u) (mq_depths mq) (uB mc u k).toNat d
    · rw [if_neg (by rw [tv_t o2]; decide)]
      by_cases o1 : ok1
      · rw [if_neg (by rw [tv_t o1]; decide)]
        have := g _ _ True ht ⟨fun _ => ⟨o1, o2⟩, fun _ => trivial⟩ rfl
        rw [cI_t trivial] at this; exact this
      · rw [if_pos (tv_f o1)]
        have := g _ _ False ht ⟨False.elim, fun h => o1 h.1⟩ rfl
        rw [cI_f (fun h => h)] at this; exact this
    · rw [if_pos (tv_f o2)]
      have := g _ _ False ht ⟨False.elim, fun h => o2 h.2⟩ rfl
      rw [cI_f (fun h => h)] at this; exact this
  rw [if_neg c13]
  have e13 : uN mc u k ≠ 13 := fun z => c13 (by rw [uq, k13]; exact z)
  by_cases e18 : uN mc u k = 18
  · have ht : uT mc u k = some (sz mc u) := by unfold uT; rw [if_neg (by omega), if_neg e13, if_pos e18]
    have o1 := h18 e18
    unfold r_Mo_stackFault_j162
    rw [if_pos (by rw [uq, k18]; exact e18)]
    have hcu : mq = mq_depths_s mq (cUp (sz mc u) (mq_depths mq) (sz mc u) d) := by unfold cUp; rw [if_neg (by omega)]; rfl
    by_cases dz : d = 0
    · rw [if_pos dz]
      have := g _ _ True ht ⟨fun _ => ⟨o1, Or.inl ⟨rfl, dz⟩⟩, fun _ => trivial⟩ hcu
      rw [cI_t trivial] at this; exact this
    · rw [if_neg dz]
      have := g _ _ False ht ⟨False.elim, fun h => h.2.elim (fun z => dz z.2) (fun z => z.1 rfl)⟩ hcu
      rw [cI_f (fun h => h)] at this; exact this
  · have ht : uT mc u k = none := by unfold uT; rw [if_neg (by omega), if_neg e13, if_neg e18]
    rw [j162 e18]
    have ho : ok1 ↔ (ok1 ∧ tOK mc u k (mq_depths mq) d) := ⟨fun z => ⟨z, tOK_none ht⟩, fun z => z.1⟩
    exact ⟨mq_depths mq, by rw [← propext ho]; rfl, fun _ => (dT_none ht).symm⟩
theorem mo_stk {n : Nat} {mc : T_mc} {mq : T_mq} (hc : CodeOK mc) {u k : Nat} (hu : u < nU mc) (hks : k < sz mc u) (hl : linesOK mc u) (hfr : mq_from_ mq = nI (fi mc u)) (hmn : mq_many mq = nI (sz mc u)) (hd : 0 ≤ (mq_depths mq k).toInt ∧ (mq_depths mq k).toInt ≤ 64) :
    ∃ dm', r_Mo_stackFault n mc mq (nI k) = some (sC mc u k (mq_depths mq), mq_depths_s mq dm') ∧ (sC mc u k (mq_depths mq) = 0 → dm' = dT mc u k (d1 mc u k (mq_depths mq) (dB mc u k (mq_depths mq k))) (dB mc u k (mq_depths mq k))) := by
  have hf := fi_le hc hu
  have nr := nu_rg hl hks
  have en : mc_numbers mc (fi mc u + k) = nI (uN mc u k).toNat := i_nat nr.1
  have tk := tk_ok n (uN mc u k).toNat (by omega)
  have tr := tk_rg (uN mc u k).toNat (by omega)
  have uq : ∀ (w : Int32), mc_numbers mc (fi mc u + k) = w ↔ uN mc u k = w.toInt := fun w => by rw [i_eq]; rfl
  have es : (mq_depths mq k - tkn (uN mc u k).toNat).toInt = (mq_depths mq k).toInt - (tkn (uN mc u k).toNat).toInt := i_sub (by omega) (by omega)
  have eB : (dB mc u k (mq_depths mq k)).toInt = (mq_depths mq k).toInt - (tkn (uN mc u k).toNat).toInt + (lft (uN mc u k).toNat).toInt := by
    unfold dB; rw [i_add (by omega) (by omega), es]
  unfold r_Mo_stackFault
  rw [mo_at hc hu hks hfr, Option.bind_some, gr_nI (by omega) (by decide), en, tk.1, tk.2, ← en]
  simp only [Option.bind_some]
  unfold sC
  by_cases c8 : (mq_depths mq k).toInt < (tkn (uN mc u k).toNat).toInt
  · rw [if_neg (by rw [i_le]; omega), cI_t c8]; exact ⟨mq_depths mq, rfl, fun h => absurd h (by decide)⟩
  rw [if_pos (by rw [i_le]; omega), cI_f c8]
  show ∃ dm', (if dB mc u k (mq_depths mq k) ≤ 64 then _ else _) = _ ∧ _
  by_cases c9 : 64 < (dB mc u k (mq_depths mq k)).toInt
  · rw [if_neg (by rw [i_le]; show ¬ _ ≤ (64 : Int); omega), cI_t c9]; exact ⟨mq_depths mq, rfl, fun h => absurd h (by decide)⟩
  rw [if_pos (by rw [i_le]; show _ ≤ (64 : Int); omega), cI_f c9]
  have off : ¬ gOn (uN mc u k) → ∃ dm', r_Mo_stackFault_j76 n mc mq (nI k) (mc_numbers mc (fi mc u + k)) (dB mc u k (mq_depths mq k)) 1 = some (cI (sOK mc u k (mq_depths mq) (dB mc u k (mq_depths mq k))) 0 10, mq_depths_s mq dm') ∧ (cI (sOK mc u k (mq_depths mq) (dB mc u k (mq_depths mq k))) 0 10 = 0 → dm' = dT mc u k (d1 mc u k (mq_depths mq) (dB mc u k (mq_depths mq k))) (dB mc u k (mq_depths mq k))) := by
    intro ng
    have e1 : d1 mc u k (mq_depths mq) (dB mc u k (mq_depths mq k)) = mq_depths mq := if_neg ng
    obtain ⟨dm', a, b⟩ := mo_tail (n := n) hc hu hks hl hfr hmn (dB mc u k (mq_depths mq k)) True (fun _ => trivial)
    have eo : (True ∧ tOK mc u k (mq_depths mq) (dB mc u k (mq_depths mq k))) ↔ sOK mc u k (mq_depths mq) (dB mc u k (mq_depths mq k)) := by
      unfold sOK; rw [e1]; exact ⟨fun h => ⟨fun g => absurd g ng, h.2⟩, fun h => ⟨trivial, h.2⟩⟩
    rw [propext eo, tv_t trivial] at a
    rw [propext eo] at b
    refine ⟨dm', a, fun h => ?_⟩
    rw [e1]
    refine b (Classical.byContradiction fun z => ?_)
    rw [cI_f z] at h; exact absurd h (by decide)
  by_cases c10 : mc_numbers mc (fi mc u + k) = 10
  · rw [if_pos c10]; exact off (fun g => g.1 (by rw [uq, k10] at c10; exact c10))
  rw [if_neg c10]
  by_cases c14 : mc_numbers mc (fi mc u + k) = 14
  · rw [if_pos c14]; exact off (fun g => g.2.1 (by rw [uq, k14] at c14; exact c14))
  rw [if_neg c14]
  by_cases c18 : mc_numbers mc (fi mc u + k) = 18
  · rw [if_pos c18]; exact off (fun g => g.2.2 (by rw [uq, k18] at c18; exact c18))
  rw [if_neg c18]
  have g : gOn (uN mc u k) := ⟨fun z => c10 (by rw [uq, k10]; exact z), fun z => c14 (by rw [uq, k14]; exact z), fun z => c18 (by rw [uq, k18]; exact z)⟩
  have e1 : d1 mc u k (mq_depths mq) (dB mc u k (mq_depths mq k)) = cUp (sz mc u) (mq_depths mq) (k + 1) (dB mc u k (mq_depths mq k)) := if_pos g
  rw [nI_1]
  show ∃ dm', (r_Mo_comes n mq (nI (k + 1)) (dB mc u k (mq_depths mq k))).bind _ = _ ∧ _
  rw [mo_comes (by omega) hmn (by omega), Option.bind_some]
  obtain ⟨dm', a, b⟩ := mo_tail (n := n) (mq := mq_depths_s mq (cUp (sz mc u) (mq_depths mq) (k + 1) (dB mc u k (mq_depths mq k)))) hc hu hks hl hfr hmn (dB mc u k (mq_depths mq k)) (cOK (sz mc u) (mq_depths mq) (k + 1) (dB mc u k (mq_depths mq k))) (fun z => absurd z g.2.2)
  have eo : (cOK (sz mc u) (mq_depths mq) (k + 1) (dB mc u k (mq_depths mq k)) ∧ tOK mc u k (cUp (sz mc u) (mq_depths mq) (k + 1) (dB mc u k (mq_depths mq k))) (dB mc u k (mq_depths mq k))) ↔ sOK mc u k (mq_depths mq) (dB mc u k (mq_depths mq k)) := by
    unfold sOK; rw [e1]; exact ⟨fun h => ⟨fun _ => h.1, h.2⟩, fun h => ⟨h.1 g, h.2⟩⟩
  have a' : r_Mo_stackFault_j76 n mc (mq_depths_s mq (cUp (sz mc u) (mq_depths mq) (k + 1) (dB mc u k (mq_depths mq k)))) (nI k) (mc_numbers mc (fi mc u + k)) (dB mc u k (mq_depths mq k)) (tv (cOK (sz mc u) (mq_depths mq) (k + 1) (dB mc u k (mq_depths mq k)))) = some (cI (cOK (sz mc u) (mq_depths mq) (k + 1) (dB mc u k (mq_depths mq k)) ∧ tOK mc u k (cUp (sz mc u) (mq_depths mq) (k + 1) (dB mc u k (mq_depths mq k))) (dB mc u k (mq_depths mq k))) 0 10, mq_depths_s mq dm') := a
  rw [propext eo] at a'
  refine ⟨dm', a', fun h => ?_⟩
  rw [e1]
  refine b (eo.mpr (Classical.byContradiction fun z => ?_))
  rw [cI_f z] at h; exact absurd h (by decide)
theorem de_tail {n : Nat} {ko : T_ko} {mc : T_mc} {de : T_de} {dm : Nat → Int32} (hc : CodeOK mc) (hk : KoRel ko mc) {u k : Nat} (hu : u < nU mc) (hks : k < sz mc u) (hl : linesOK mc u) (hV : dVR (sz mc u) dm) (hR : dDR (sz mc u) de dm) {d : Int32} (hd : 0 ≤ d.toInt) :
    ∃ de', r_De_faultAt_j122 n ko de (nI u) (nI k) (mc_numbers mc (fi mc u + k)) d = some (cI (tOK mc u k dm d) 0 10, de') ∧ (tOK mc u k dm d → dDR (sz mc u) de' (dT mc u k dm d)) := by
  have hf := fi_le hc hu
  have uq : ∀ (w : Int32), mc_numbers mc (fi mc u + k) = w ↔ uN mc u k = w.toInt := fun w => by rw [i_eq]; rfl
  have tg : r_De_targetOf n ko (nI u) (nI k) (mc_numbers mc (fi mc u + k)) = some (match uT mc u k with | none => -1 | some t => nI t) := by
    unfold r_De_targetOf uT
    rw [co_aAt hc hk hu hks, co_bAt hc hk hu hks, co_size hc hk hu]
    simp only [Option.bind_some]
    by_cases c10 : mc_numbers mc (fi mc u + k) = 10
    · have e : uN mc u k = 10 := by rw [uq, k10] at c10; exact c10
      rw [if_pos c10, if_pos (Or.inl e)]; exact congrArg some (i_nat (by have := tgt10 hl hks (Or.inl e); show 0 ≤ uA mc u k; omega))
    rw [if_neg c10]
    by_cases c11 : mc_numbers mc (fi mc u + k) = 11
    · have e : uN mc u k = 11 := by rw [uq, k11] at c11; exact c11
      rw [if_pos c11, if_pos (Or.inr (Or.inl e))]; exact congrArg some (i_nat (by have := tgt10 hl hks (Or.inr e); show 0 ≤ uA mc u k; omega))
    rw [if_neg c11]
    by_cases c13 : mc_numbers mc (fi mc u + k) = 13
    · have e : uN mc u k = 13 := by rw [uq, k13] at c13; exact c13
      rw [if_pos c13, if_neg (by omega), if_pos e]; exact congrArg some (i_nat (by have := tgt13 hl hks e; show 0 ≤ uB mc u k; omega))
    rw [if_neg c13]
    by_cases c14 : mc_numbers mc (fi mc u + k) = 14
    · have e : uN mc u k = 14 := by rw [uq, k14] at c14; exact c14
      rw [if_pos c14, if_pos (Or.inr (Or.inr e))]; exact congrArg some (i_nat (by have := tgt14 hl hks e; show 0 ≤ uA mc u k; omega))
    rw [if_neg c14]
    rw [uq, k10] at c10; rw [uq, k11] at c11; rw [uq, k13] at c13; rw [uq, k14] at c14
    by_cases c18 : mc_numbers mc (fi mc u + k) = 18
    · have e : uN mc u k = 18 := by rw [uq, k18] at c18; exact c18
      rw [if_pos c18, if_neg (by omega), if_neg c13, if_pos e]
    · rw [if_neg c18]; rw [uq, k18] at c18; rw [if_neg (by omega), if_neg c13, if_neg c18]
  unfold r_De_faultAt_j122
  rw [tg, Option.bind_some]
  cases ht : uT mc u k with
  | none =>
    have o := tOK_none (dm1 := dm) (d := d) ht
    rw [if_pos rfl, cI_t o, dT_none ht]; exact ⟨de, rfl, fun _ => hR⟩
  | some t =>
    have hle := uT_le hl hks ht
    obtain ⟨de', a, b⟩ := de_agrees (n := n) (by omega) hle hV hR hd (d := d)
    rw [if_neg (by rw [i_eq, nI_t (by omega), km1]; omega), a, Option.bind_some]
    dsimp only
    by_cases o : cOK (sz mc u) dm t d
    · rw [if_neg (by rw [tv_t o]; decide), cI_t ((tOK_some ht).mpr o), dT_some ht]; exact ⟨de', rfl, fun _ => b⟩
    · rw [if_pos (tv_f o), cI_f (fun z => o ((tOK_some ht).mp z))]; exact ⟨de', rfl, fun z => absurd ((tOK_some ht).mp z) o⟩
