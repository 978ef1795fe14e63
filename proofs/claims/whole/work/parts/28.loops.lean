/-! fault 1 of the reference; fault 7, both sides -/
theorem acc_loop {R : Nat → Int32 → Nat → Option Int32} {S : Nat} {P : Nat → Prop} (ex : ∀ f Q, R (f + 1) (tv Q) S = some (tv Q)) (st : ∀ f Q j, j < S → R (f + 1) (tv Q) j = R f (tv (Q ∨ P j)) (j + 1)) :
    ∀ (f j : Nat) (Q : Prop), j ≤ S → S < j + f → R f (tv Q) j = some (tv (Q ∨ ∃ j', j ≤ j' ∧ j' < S ∧ P j')) := by
  intro f
  induction f with
  | zero => intro j Q a b; omega
  | succ f ih =>
    intro j Q a b
    by_cases e : j = S
    · rw [e, ex]; exact congrArg some (tv_c ⟨Or.inl, fun h => h.elim id (fun h => absurd h (ex_none (Nat.le_refl _)))⟩)
    · rw [st f Q j (by omega), ih (j + 1) _ (by omega) (by omega)]
      refine congrArg some (tv_c ?_)
      rw [ex_step (P := P) (show j < S by omega), or_assoc]
theorem acc0 {R : Nat → Int32 → Nat → Option Int32} {S : Nat} {P : Nat → Prop} (ex : ∀ f Q, R (f + 1) (tv Q) S = some (tv Q)) (st : ∀ f Q j, j < S → R (f + 1) (tv Q) j = R f (tv (Q ∨ P j)) (j + 1)) {n : Nat} (h : S < n) : R n 0 0 = some (tv (∃ j', 0 ≤ j' ∧ j' < S ∧ P j')) ∧ R n 1 0 = some 1 := by
  have a := acc_loop ex st n 0 False (Nat.zero_le _) (by omega)
  have b := acc_loop ex st n 0 True (Nat.zero_le _) (by omega)
  rw [tv_f (fun h => h)] at a
  rw [tv_t trivial, tv_t (Or.inl trivial)] at b
  exact ⟨a.trans (congrArg some (tv_c ⟨fun h => h.elim False.elim id, Or.inr⟩)), b⟩
theorem fst_loop {R : Nat → Nat → Option Int32} {S : Nat} {P : Nat → Prop} (ex : ∀ f, R (f + 1) S = some 0) (s1' : ∀ f j, j < S → P j → R (f + 1) j = some 1) (s0' : ∀ f j, j < S → ¬ P j → R (f + 1) j = R f (j + 1)) :
    ∀ (f j : Nat), j ≤ S → S < j + f → R f j = some (tv (∃ j', j ≤ j' ∧ j' < S ∧ P j')) := by
  intro f
  induction f with
  | zero => intro j a b; omega
  | succ f ih =>
    intro j a b
    by_cases e : j = S
    · rw [e, ex]; exact s0 (ex_none (Nat.le_refl _))
    · by_cases p : P j
      · rw [s1' f j (by omega) p]; exact s1 ⟨j, Nat.le_refl _, by omega, p⟩
      · rw [s0' f j (by omega) p, ih (j + 1) (by omega) (by omega)]
        refine congrArg some (tv_c ?_)
        rw [ex_step (P := P) (show j < S by omega)]
        exact ⟨Or.inr, fun h => h.elim (fun h => absurd h p) id⟩
theorem tvT {Q P : Prop} (h : Q ∨ P) : tv (Q ∨ P) = 1 := tv_t h
theorem tvF {Q P : Prop} (h : ¬ Q) (h2 : ¬ P) : tv (Q ∨ P) = 0 := tv_f (fun z => z.elim h h2)
theorem mo_place {n : Nat} (hn : 5000 ≤ n) {mc : T_mc} (hc : CodeOK mc) {u : Nat} (hu : u < nU mc) : r_Mo_placeIsWrong n mc (nI u) = some (tv (bad1 mc u)) := by
  have h16 := hc.2.1
  have hfu := hc.2.2.2.2.2.2.2.1 u hu
  have hsz := hc.2.2.2.2.2.2.2.2
  have h16' : 16 < 2147483648 := by decide
  have q3 : (mc_frames mc u).toInt = frm mc u := rfl
  have q4 : (mc_places mc u).toInt = plc mc u := rfl
  have sum : (mc_places mc u + mc_frames mc u).toInt = plc mc u + frm mc u := by rw [i_add (by omega) (by omega)]; rfl
  have hu1 : mc_units mc - 1 = nI (nU mc - 1) := by rw [hc.1, show (1 : Int32) = nI 1 from rfl, pk_sub (by omega)]
  have lp := acc0 (R := fun f q v => r_Mo_placeIsWrong_l69 n mc f (nI u) q (nI v)) (S := u) (P := meets mc u)
    (fun f Q => by show r_Mo_placeIsWrong_l69 n mc (f + 1) _ _ _ = _; rw [r_Mo_placeIsWrong_l69, if_pos (i_le.mpr (Int.le_refl _)), gb_tv])
    (fun f Q v hv => by
      show r_Mo_placeIsWrong_l69 n mc (f + 1) _ _ _ = r_Mo_placeIsWrong_l69 n mc f _ _ _
      have hvU : v < nU mc := by omega
      have hfv := hc.2.2.2.2.2.2.2.1 v hvU
      have q1 : (mc_places mc v).toInt = plc mc v := rfl
      have q2 : (mc_frames mc v).toInt = frm mc v := rfl
      have sumv : (mc_places mc v + mc_frames mc v).toInt = plc mc v + frm mc v := by rw [i_add (by omega) (by omega)]; rfl
      have j97 : ∀ y : Int32, (y = 0 → ¬ meets mc u v) → (¬ y = 0 → 0 ≤ plc mc v ∧ 0 < frm mc v) → r_Mo_placeIsWrong_j97 n mc (r_Mo_placeIsWrong_l69 n mc f) (nI u) (tv Q) (nI v) y = r_Mo_placeIsWrong_l69 n mc f (nI u) (tv (Q ∨ meets mc u v)) (nI (v + 1)) := by
        intro y y0 y1
        unfold r_Mo_placeIsWrong_j97
        simp only [gr_nI (show v < 16 by omega) h16', gr_nI (show u < 16 by omega) h16', nI_1]
        by_cases q : Q
        · rw [if_neg (by rw [tv_t q]; decide), tvT (Or.inl q)]
        · rw [if_pos (tv_f q)]
          by_cases yz : y = 0
          · rw [if_pos yz, tvF q (y0 yz)]
          · have y2 := y1 yz
            rw [if_neg yz]
            by_cases c1 : mc_places mc u + mc_frames mc u ≤ mc_places mc v
            · rw [if_pos c1, tvF q]; rw [i_le, sum, q1] at c1; unfold meets; omega
            · rw [if_neg c1]; rw [i_le, sum, q1] at c1
              by_cases c2 : mc_places mc v + mc_frames mc v ≤ mc_places mc u
              · rw [if_pos c2, tvF q]; rw [i_le, sumv, q4] at c2; unfold meets; omega
              · rw [if_neg c2, tvT]; rw [i_le, sumv, q4] at c2; exact Or.inr ⟨y2.1, y2.2, by omega, by omega⟩
      rw [r_Mo_placeIsWrong_l69, if_neg (by rw [i_le, nI_t (by omega), nI_t (by omega)]; omega), gr_nI (by omega) h16', gr_nI (by omega) h16']
      unfold r_Mo_placeIsWrong_j96
      by_cases c1 : mc_places mc v < 0
      · rw [if_pos c1, j97]
        · intro _; rw [i_lt, k0, q1] at c1; unfold meets; omega
        · intro h; exact absurd rfl h
      · rw [if_neg c1]; rw [i_lt, k0, q1] at c1
        by_cases c2 : mc_frames mc v ≤ 0
        · rw [if_pos c2, j97]
          · intro _; rw [i_le, k0, q2] at c2; unfold meets; omega
          · intro h; exact absurd rfl h
        · rw [if_neg c2, j97]
          · intro h; exact absurd h (by decide)
          · intro _; rw [i_le, k0, q2] at c2; omega) (show u < n by omega)
  have lp0 : r_Mo_placeIsWrong_l69 n mc n (nI u) 0 0 = some (tv (∃ v, 0 ≤ v ∧ v < u ∧ meets mc u v)) := lp.1
  have lp1 : r_Mo_placeIsWrong_l69 n mc n (nI u) 1 0 = some 1 := lp.2
  have j21 : ¬ (u + 1 = nU mc ∧ plc mc u ≠ 0) → r_Mo_placeIsWrong_j21 n mc (nI u) = some (tv (bad1 mc u)) := by
    intro h0
    unfold r_Mo_placeIsWrong_j21
    simp only [gr_nI (show u < 16 by omega) h16', lp0, lp1]
    by_cases c1 : mc_places mc u < 0
    · rw [if_pos c1]; rw [i_lt, k0, q4] at c1; refine s0 ?_; unfold bad1; rintro (h | h) <;> omega
    rw [if_neg c1]; rw [i_lt, k0, q4] at c1
    by_cases c2 : mc_frames mc u = 0
    · rw [if_pos c2]; rw [i_eq, k0, q3] at c2; refine s0 ?_; unfold bad1; rintro (h | h) <;> omega
    rw [if_neg c2]; rw [i_eq, k0, q3] at c2
    by_cases c3 : mc_places mc u + mc_frames mc u ≤ mc_size mc
    · rw [if_pos c3]; rw [i_le, sum] at c3
      refine congrArg some (tv_c ⟨fun m => Or.inr ⟨by omega, c2, Or.inr m⟩, ?_⟩)
      rintro (h | ⟨-, -, h | h⟩)
      · exact absurd h h0
      · omega
      · exact h
    · rw [if_neg c3]; rw [i_le, sum] at c3
      exact s1 (Or.inr ⟨by omega, c2, Or.inl (by omega)⟩)
  unfold r_Mo_placeIsWrong
  rw [hu1, gr_nI (by omega) h16']
  by_cases c1 : nI u = nI (nU mc - 1)
  · rw [if_pos c1]
    rw [i_eq, nI_t (by omega), nI_t (by omega)] at c1
    by_cases c2 : mc_places mc u = 0
    · rw [if_pos c2, j21]; rw [i_eq, k0, q4] at c2; omega
    · rw [if_neg c2]; rw [i_eq, k0, q4] at c2; exact s1 (Or.inl ⟨by omega, c2⟩)
  · rw [if_neg c1, j21]
    rw [i_eq, nI_t (by omega), nI_t (by omega)] at c1; omega
/-- instructions of a unit by their number in it -/
def uN (mc : T_mc) (u k : Nat) : Int := iN mc (fi mc u + k)
def uA (mc : T_mc) (u k : Nat) : Int := iA mc (fi mc u + k)
def uB (mc : T_mc) (u k : Nat) : Int := iB mc (fi mc u + k)
def uC (mc : T_mc) (u k : Nat) : Int := iC mc (fi mc u + k)
def linesOK (mc : T_mc) (u : Nat) : Prop := ∀ k, k < sz mc u → lineF mc u k = 0
theorem tgt13 {mc : T_mc} {u k : Nat} (h : linesOK mc u) (hk : k < sz mc u) (e : uN mc u k = 13) : (k : Int) + 1 ≤ uB mc u k ∧ uB mc u k ≤ sz mc u := by
  have := (lineF_0 (h k hk)).2.2.2.2
  unfold bad6 at this; unfold uN at e; unfold uB; omega
theorem tgt14 {mc : T_mc} {u k : Nat} (h : linesOK mc u) (hk : k < sz mc u) (e : uN mc u k = 14) : 0 ≤ uA mc u k ∧ uA mc u k < k := by
  have := (lineF_0 (h k hk)).2.2.2.2
  unfold bad6 at this; unfold uN at e; unfold uA; omega
theorem tgt10 {mc : T_mc} {u k : Nat} (h : linesOK mc u) (hk : k < sz mc u) (e : uN mc u k = 10 ∨ uN mc u k = 11) : (k : Int) + 1 ≤ uA mc u k ∧ uA mc u k ≤ sz mc u := by
  have := (lineF_0 (h k hk)).2.2.2.2
  unfold bad6 at this; unfold uN at e; unfold uA; omega
def inL (mc : T_mc) (u : Nat) (x : Int) (j : Nat) : Prop := (j : Int) < x ∧ x < uB mc u j
def bad7 (mc : T_mc) (u k : Nat) : Prop :=
  (uN mc u k = 12 ∧ (¬ (k + 1 < sz mc u ∧ uN mc u (k + 1) = 13 ∧ uA mc u (k + 1) = uA mc u k) ∨ ∃ j, 0 ≤ j ∧ j < sz mc u ∧ uN mc u j = 13 ∧ inL mc u k j ∧ uA mc u j = uA mc u k)) ∨
  (uN mc u k = 13 ∧ (¬ (1 ≤ k ∧ uN mc u (k - 1) = 12 ∧ uA mc u (k - 1) = uA mc u k) ∨ ¬ (uN mc u (uB mc u k - 1).toNat = 14 ∧ uA mc u (uB mc u k - 1).toNat = k) ∨ ∃ j, 0 ≤ j ∧ j < sz mc u ∧ uN mc u j = 13 ∧ inL mc u k j ∧ ¬ inL mc u (uB mc u k - 1) j)) ∨
  (uN mc u k = 14 ∧ ¬ (uN mc u (uA mc u k).toNat = 13 ∧ uB mc u (uA mc u k).toNat = k + 1)) ∨
  ((uN mc u k = 10 ∨ uN mc u k = 11) ∧ ∃ j, 0 ≤ j ∧ j < sz mc u ∧ uN mc u j = 13 ∧ (uA mc u k = j ∨ inL mc u (uA mc u k) j) ∧ ¬ inL mc u k j)
theorem mo_at {n : Nat} {mc : T_mc} {mq : T_mq} (hc : CodeOK mc) {u k : Nat} (hu : u < nU mc) (hks : k < sz mc u) (hfr : mq_from_ mq = nI (fi mc u)) : r_Mo_numberAt n mc mq (nI k) = some (mc_numbers mc (fi mc u + k)) := by
  have hf := fi_le hc hu
  have h256 := hc.2.2.2.1
  unfold r_Mo_numberAt
  rw [hfr, nI_add, gr_nI (by omega) h31]
theorem mo_last {n : Nat} {mc : T_mc} {mq : T_mq} (hc : CodeOK mc) {u k : Nat} (hu : u < nU mc) (hks : k < sz mc u) (hl : linesOK mc u) (e : uN mc u k = 13) (hfr : mq_from_ mq = nI (fi mc u)) : r_Mo_lastOf n mc mq (nI k) = some (nI (uB mc u k - 1).toNat) := by
  have hf := fi_le hc hu
  have h256 := hc.2.2.2.1
  have t := tgt13 hl hks e
  have t' : (mc_bs mc (fi mc u + k)).toInt = uB mc u k := rfl
  unfold r_Mo_lastOf
  rw [hfr, nI_add, gr_nI (by omega) h31]
  refine congrArg some ?_
  rw [i_eq, i_sub (by rw [k1, t']; omega) (by rw [k1, t']; omega), nI_t (by omega), k1, t']; omega
theorem mo_inL {n : Nat} {mc : T_mc} {mq : T_mq} (hc : CodeOK mc) {u j : Nat} {x : Int32} (hu : u < nU mc) (hj : j < sz mc u) (hl : linesOK mc u) (e : uN mc u j = 13) (hfr : mq_from_ mq = nI (fi mc u)) : r_Mo_isInLoop n mc mq x (nI j) = some (tv (inL mc u x.toInt j)) := by
  have hf := fi_le hc hu
  have t := tgt13 hl hj e
  unfold r_Mo_isInLoop inL
  rw [mo_last hc hu hj hl e hfr, Option.bind_some]
  by_cases c1 : x ≤ nI j
  · rw [if_pos c1]; rw [i_le, nI_t (by omega)] at c1; exact s0 (by omega)
  · rw [if_neg c1]; rw [i_le, nI_t (by omega)] at c1
    by_cases c2 : nI (uB mc u j - 1).toNat < x
    · rw [if_pos c2]; rw [i_lt, nI_t (by omega)] at c2; exact s0 (by omega)
    · rw [if_neg c2]; rw [i_lt, nI_t (by omega)] at c2; exact s1 (by omega)
theorem mo_same {n : Nat} {mc : T_mc} {mq : T_mq} (hc : CodeOK mc) {u k : Nat} (hu : u < nU mc) (hks : k < sz mc u) (hfr : mq_from_ mq = nI (fi mc u)) (hmn : mq_many mq = nI (sz mc u)) {x w : Int32} : r_Mo_hasSame n mc mq (nI k) x w = some (tv (0 ≤ x.toInt ∧ x.toInt < sz mc u ∧ uN mc u x.toInt.toNat = w.toInt ∧ uA mc u x.toInt.toNat = uA mc u k)) := by
  have hf := fi_le hc hu
  have h256 := hc.2.2.2.1
  unfold r_Mo_hasSame
  rw [hmn]
  by_cases c1 : x < 0
  · rw [if_pos c1]; rw [i_lt, k0] at c1; exact s0 (by omega)
  rw [if_neg c1]; rw [i_lt, k0] at c1
  by_cases c2 : nI (sz mc u) ≤ x
  · rw [if_pos c2]; rw [i_le, nI_t (by omega)] at c2; exact s0 (by omega)
  rw [if_neg c2]; rw [i_le, nI_t (by omega)] at c2
  obtain ⟨j, hj, ex⟩ : ∃ j : Nat, j < sz mc u ∧ x = nI j := ⟨x.toInt.toNat, by omega, i_nat (by omega)⟩
  rw [ex, mo_at hc hu hj hfr, hfr, nI_add, nI_add, Option.bind_some, gr_nI (by omega) h31, gr_nI (by omega) h31, nI_t (by omega)]
  show (if mc_numbers mc (fi mc u + j) = w then _ else _) = _
  have q1 : (mc_numbers mc (fi mc u + j)).toInt = uN mc u j := rfl
  have q2 : (mc_as_ mc (fi mc u + j)).toInt = uA mc u j := rfl
  have q3 : (mc_as_ mc (fi mc u + k)).toInt = uA mc u k := rfl
  rw [show ((j : Int)).toNat = j from Int.toNat_natCast j]
  by_cases c3 : mc_numbers mc (fi mc u + j) = w
  · rw [if_pos c3]; rw [i_eq, q1] at c3
    by_cases c4 : mc_as_ mc (fi mc u + j) = mc_as_ mc (fi mc u + k)
    · rw [if_pos c4]; rw [i_eq, q2, q3] at c4; exact s1 ⟨by omega, by omega, c3, c4⟩
    · rw [if_neg c4]; rw [i_eq, q2, q3] at c4; exact s0 (fun h => c4 h.2.2.2)
  · rw [if_neg c3]; rw [i_eq, q1] at c3; exact s0 (fun h => c3 h.2.2.1)
