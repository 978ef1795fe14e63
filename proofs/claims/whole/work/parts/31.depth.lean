/-! the stack (faults 8 to 10): one step, both sides -/
def cOK (S : Nat) (dm : Nat → Int32) (t : Nat) (d : Int32) : Prop := (t = S ∧ d = 0) ∨ (t ≠ S ∧ ((dm t).toInt < 0 ∨ dm t = d))
def cUp (S : Nat) (dm : Nat → Int32) (t : Nat) (d : Int32) : Nat → Int32 := if t < S ∧ (dm t).toInt < 0 then upd dm t d else dm
/-- depths are -1 or 0 .. 64 -/
def dVR (S : Nat) (dm : Nat → Int32) : Prop := ∀ i, i < S → dm i = -1 ∨ (0 ≤ (dm i).toInt ∧ (dm i).toInt ≤ 64)
/-- the class's row beside the reference's -/
def dDR (S : Nat) (de : T_de) (dm : Nat → Int32) : Prop := (∀ i, i < S → de_depths de i = dm i) ∧ de_depths de S = 0
theorem cUp_VR {S : Nat} {dm : Nat → Int32} {t : Nat} {d : Int32} (h : dVR S dm) (hd : 0 ≤ d.toInt ∧ d.toInt ≤ 64) : dVR S (cUp S dm t d) := by
  intro i hi
  unfold cUp
  split
  · by_cases e : i = t
    · rw [e, upd_at]; exact Or.inr hd
    · rw [upd_ne e]; exact h i hi
  · exact h i hi
theorem mo_comes {n : Nat} {mq : T_mq} {S t : Nat} {d : Int32} (hS : S ≤ 256) (hmn : mq_many mq = nI S) (ht : t ≤ S) : r_Mo_comes n mq (nI t) d = some (tv (cOK S (mq_depths mq) t d), mq_depths_s mq (cUp S (mq_depths mq) t d)) := by
  have j34 : ∀ m : T_mq, r_Mo_comes_j34 n m (nI t) d = some (tv (mq_depths m t = d), m) := fun m => by
    unfold r_Mo_comes_j34
    rw [gr_nI (by omega) (by decide)]
    by_cases c : mq_depths m t = d
    · rw [if_pos c, tv_t c]
    · rw [if_neg c, tv_f c]
  unfold r_Mo_comes
  rw [hmn]
  by_cases c1 : nI t = nI S
  · have e : t = S := by rw [i_eq, nI_t (by omega), nI_t (by omega)] at c1; omega
    have eu : cUp S (mq_depths mq) t d = mq_depths mq := by unfold cUp; rw [if_neg (by omega)]
    rw [if_pos c1, eu]
    by_cases c2 : d = 0
    · rw [if_pos c2, tv_t (show cOK S (mq_depths mq) t d from Or.inl ⟨e, c2⟩)]; rfl
    · rw [if_neg c2, tv_f (show ¬ cOK S (mq_depths mq) t d from fun h => h.elim (fun h => c2 h.2) (fun h => h.1 e))]; rfl
  · have e : t ≠ S := fun z => c1 (by rw [z])
    rw [if_neg c1, gr_nI (by omega) (by decide), j34, ga_nI (by omega) (by decide), j34, nI_clamp (by omega)]
    by_cases c2 : 0 ≤ mq_depths mq t
    · rw [if_pos c2]; rw [i_le, k0] at c2
      have eu : cUp S (mq_depths mq) t d = mq_depths mq := by unfold cUp; rw [if_neg (by omega)]
      rw [eu]
      refine congrArg some (Prod.ext (tv_c ⟨fun h => Or.inr ⟨e, Or.inr h⟩, fun h => ?_⟩) rfl)
      rcases h with h | ⟨-, h | h⟩
      · exact absurd h.1 e
      · omega
      · exact h
    · rw [if_neg c2]; rw [i_le, k0] at c2
      have eu : cUp S (mq_depths mq) t d = upd (mq_depths mq) t d := by unfold cUp; rw [if_pos ⟨by omega, by omega⟩]
      rw [eu]
      refine congrArg some (Prod.ext ?_ rfl)
      show tv (upd (mq_depths mq) t d t = d) = tv (cOK S (mq_depths mq) t d)
      rw [tv_t upd_at, tv_t (show cOK S (mq_depths mq) t d from Or.inr ⟨e, Or.inl (by omega)⟩)]
theorem de_agrees {n : Nat} {de : T_de} {dm : Nat → Int32} {S t : Nat} {d : Int32} (hS : S ≤ 256) (ht : t ≤ S) (hV : dVR S dm) (hR : dDR S de dm) (hd : 0 ≤ d.toInt) : ∃ de', r_De_agrees n de (nI t) d = some (tv (cOK S dm t d), de') ∧ dDR S de' (cUp S dm t d) := by
  have j32 : ∀ x : T_de, r_De_agrees_j32 n x (nI t) d = some (tv (de_depths x t = d), x) := fun m => by
    unfold r_De_agrees_j32
    rw [gr_nI (by omega) (by decide)]
    by_cases c : de_depths m t = d
    · rw [if_pos c, tv_t c]
    · rw [if_neg c, tv_f c]
  unfold r_De_agrees
  rw [if_neg (lt0 (by omega)), if_pos (by rw [i_lt, nI_t (by omega)]; show _ < (257 : Int); omega), gr_nI (by omega) (by decide), ga_nI (by omega) (by decide), j32, j32, nI_clamp (by omega)]
  by_cases e : t = S
  · have e0 : de_depths de t = 0 := by rw [e]; exact hR.2
    have eu : cUp S dm t d = dm := by unfold cUp; rw [if_neg (by omega)]
    rw [if_neg (by rw [e0]; decide), eu, e0]
    refine ⟨de, congrArg some (Prod.ext (tv_c ⟨fun h => Or.inl ⟨e, h.symm⟩, fun h => ?_⟩) rfl), hR⟩
    rcases h with h | h
    · exact h.2.symm
    · exact absurd e h.1
  · have ht' : t < S := by omega
    have e0 := hR.1 t ht'
    rcases hV t ht' with v | v
    · have eu : cUp S dm t d = upd dm t d := by unfold cUp; rw [if_pos ⟨ht', by rw [v, km1]; omega⟩]
      rw [if_pos (by rw [e0, v]), eu]
      refine ⟨_, congrArg some (Prod.ext ?_ rfl), fun i hi => ?_, ?_⟩
      · show tv (upd (de_depths de) t d t = d) = tv (cOK S dm t d)
        rw [tv_t upd_at, tv_t (show cOK S dm t d from Or.inr ⟨e, Or.inl (by rw [v, km1]; omega)⟩)]
      · show upd (de_depths de) t d i = upd dm t d i
        by_cases z : i = t
        · rw [z, upd_at, upd_at]
        · rw [upd_ne z, upd_ne z]; exact hR.1 i hi
      · show upd (de_depths de) t d S = 0
        rw [upd_ne (by omega)]; exact hR.2
    · have eu : cUp S dm t d = dm := by unfold cUp; rw [if_neg (by omega)]
      rw [if_neg (by rw [e0, i_eq, km1]; omega), eu, e0]
      refine ⟨de, congrArg some (Prod.ext (tv_c ⟨fun h => Or.inr ⟨e, Or.inr h⟩, fun h => ?_⟩) rfl), hR⟩
      rcases h with h | ⟨-, h | h⟩
      · exact absurd h.1 e
      · omega
      · exact h
theorem tk_ok (n : Nat) : ∀ j, j < 19 → r_Mo_taken n (nI j) = some (tkn j) ∧ r_Mo_left n (nI j) = some (lft j) := by
  intro j hj
  match j, hj with
  | 0, _ | 1, _ | 2, _ | 3, _ | 4, _ | 5, _ | 6, _ | 7, _ | 8, _ | 9, _ | 10, _ | 11, _ | 12, _ | 13, _ | 14, _ | 15, _ | 16, _ | 17, _ | 18, _ => exact ⟨rfl, rfl⟩
  | j + 19, h => exact absurd h (by omega)
theorem tk_rg : ∀ j, j < 19 → 0 ≤ (tkn j).toInt ∧ (tkn j).toInt ≤ 3 ∧ 0 ≤ (lft j).toInt ∧ (lft j).toInt ≤ 1 := by decide +kernel
def gOn (nu : Int) : Prop := nu ≠ 10 ∧ nu ≠ 14 ∧ nu ≠ 18
def uT (mc : T_mc) (u k : Nat) : Option Nat := if uN mc u k = 10 ∨ uN mc u k = 11 ∨ uN mc u k = 14 then some (uA mc u k).toNat else if uN mc u k = 13 then some (uB mc u k).toNat else if uN mc u k = 18 then some (sz mc u) else none
theorem uT_le {mc : T_mc} {u k t : Nat} (hl : linesOK mc u) (hk : k < sz mc u) (h : uT mc u k = some t) : t ≤ sz mc u := by
  unfold uT at h
  split at h
  · rename_i c
    rcases c with c | c | c
    · have := tgt10 hl hk (Or.inl c); cases h; omega
    · have := tgt10 hl hk (Or.inr c); cases h; omega
    · have := tgt14 hl hk c; cases h; omega
  · split at h
    · rename_i c; have := tgt13 hl hk c; cases h; omega
    · split at h
      · cases h; exact Nat.le_refl _
      · cases h
/-- depth behind an instruction -/
def dB (mc : T_mc) (u k : Nat) (d : Int32) : Int32 := (d - tkn (uN mc u k).toNat) + lft (uN mc u k).toNat
noncomputable def d1 (mc : T_mc) (u k : Nat) (dm : Nat → Int32) (d : Int32) : Nat → Int32 := @ite (Nat → Int32) (gOn (uN mc u k)) (Classical.propDecidable _) (cUp (sz mc u) dm (k + 1) d) dm
noncomputable def d2 (mc : T_mc) (u k : Nat) (dm : Nat → Int32) (d : Int32) : Nat → Int32 := match uT mc u k with | none => d1 mc u k dm d | some t => cUp (sz mc u) (d1 mc u k dm d) t d
def sOK (mc : T_mc) (u k : Nat) (dm : Nat → Int32) (d : Int32) : Prop := (gOn (uN mc u k) → cOK (sz mc u) dm (k + 1) d) ∧ ∀ t, uT mc u k = some t → cOK (sz mc u) (d1 mc u k dm d) t d
noncomputable def sC (mc : T_mc) (u k : Nat) (dm : Nat → Int32) : Int32 := cI ((dm k).toInt < (tkn (uN mc u k).toNat).toInt) 8 (cI (64 < (dB mc u k (dm k)).toInt) 9 (cI (sOK mc u k dm (dB mc u k (dm k))) 0 10))
theorem nu_rg {mc : T_mc} {u k : Nat} (hl : linesOK mc u) (hk : k < sz mc u) : 0 ≤ uN mc u k ∧ uN mc u k ≤ 18 := by
  have := (lineF_0 (hl k hk)).1
  unfold bad2 at this; unfold uN; omega
