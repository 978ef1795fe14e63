/-! a line's fault as a whole; fault 1; the class's Shape -/
noncomputable def cI (P : Prop) (a b : Int32) : Int32 := @ite Int32 P (Classical.propDecidable P) a b
theorem cI_t {P : Prop} {a b : Int32} (h : P) : cI P a b = a := if_pos h
theorem cI_f {P : Prop} {a b : Int32} (h : ¬ P) : cI P a b = b := if_neg h
noncomputable def lineG (mc : T_mc) (u k : Nat) (nu a b c : Int) : Int32 := cI (bad2 nu a b c) 2 (cI (bad3 mc u nu a) 3 (cI (bad4 mc u nu a b c) 4 (cI (bad5 mc u nu a b c) 5 (cI (bad6 (sz mc u) k nu a b) 6 0))))
noncomputable def lineF (mc : T_mc) (u k : Nat) : Int32 := lineG mc u k (iN mc (fi mc u + k)) (iA mc (fi mc u + k)) (iB mc (fi mc u + k)) (iC mc (fi mc u + k))
theorem lineF_ge (mc : T_mc) (u k : Nat) : 0 ≤ (lineF mc u k).toInt := by
  unfold lineF lineG cI
  (repeat' split) <;> decide
theorem lineF_0 {mc : T_mc} {u k : Nat} (h : lineF mc u k = 0) : ¬ bad2 (iN mc (fi mc u + k)) (iA mc (fi mc u + k)) (iB mc (fi mc u + k)) (iC mc (fi mc u + k)) ∧ ¬ bad3 mc u (iN mc (fi mc u + k)) (iA mc (fi mc u + k)) ∧ ¬ bad4 mc u (iN mc (fi mc u + k)) (iA mc (fi mc u + k)) (iB mc (fi mc u + k)) (iC mc (fi mc u + k)) ∧ ¬ bad5 mc u (iN mc (fi mc u + k)) (iA mc (fi mc u + k)) (iB mc (fi mc u + k)) (iC mc (fi mc u + k)) ∧ ¬ bad6 (sz mc u) k (iN mc (fi mc u + k)) (iA mc (fi mc u + k)) (iB mc (fi mc u + k)) := by
  unfold lineF lineG at h
  have n2 : ¬ bad2 (iN mc (fi mc u + k)) (iA mc (fi mc u + k)) (iB mc (fi mc u + k)) (iC mc (fi mc u + k)) := fun q => by rw [cI_t q] at h; exact absurd h (by decide)
  rw [cI_f n2] at h
  have n3 : ¬ bad3 mc u (iN mc (fi mc u + k)) (iA mc (fi mc u + k)) := fun q => by rw [cI_t q] at h; exact absurd h (by decide)
  rw [cI_f n3] at h
  have n4 : ¬ bad4 mc u (iN mc (fi mc u + k)) (iA mc (fi mc u + k)) (iB mc (fi mc u + k)) (iC mc (fi mc u + k)) := fun q => by rw [cI_t q] at h; exact absurd h (by decide)
  rw [cI_f n4] at h
  have n5 : ¬ bad5 mc u (iN mc (fi mc u + k)) (iA mc (fi mc u + k)) (iB mc (fi mc u + k)) (iC mc (fi mc u + k)) := fun q => by rw [cI_t q] at h; exact absurd h (by decide)
  rw [cI_f n5] at h
  exact ⟨n2, n3, n4, n5, fun q => by rw [cI_t q] at h; exact absurd h (by decide)⟩
theorem mo_line {n : Nat} (hn : 5000 ≤ n) {mc : T_mc} {mq : T_mq} (hc : CodeOK mc) {u k : Nat} (hu : u < nU mc) (hks : k < sz mc u) (hfr : mq_from_ mq = nI (fi mc u)) (hmn : mq_many mq = nI (sz mc u)) : r_Mo_lineFault n mc mq (nI k) (nI u) = some (lineF mc u k) := by
  have hf := fi_le hc hu
  have h256 := hc.2.2.2.1
  have h16 := hc.2.1
  have hi : fi mc u + k < 256 := by omega
  unfold r_Mo_lineFault lineF lineG
  rw [hfr, nI_add, mo_num hi, Option.bind_some]
  by_cases b2 : bad2 (iN mc (fi mc u + k)) (iA mc (fi mc u + k)) (iB mc (fi mc u + k)) (iC mc (fi mc u + k))
  · rw [tv_t b2, cI_t b2]; rfl
  rw [tv_f b2, cI_f b2, if_pos rfl, mo_unit hi (by omega), Option.bind_some]
  by_cases b3 : bad3 mc u (iN mc (fi mc u + k)) (iA mc (fi mc u + k))
  · rw [tv_t b3, cI_t b3]; rfl
  rw [tv_f b3, cI_f b3, if_pos rfl, mo_frame hc hi hu b2 b3, Option.bind_some]
  by_cases b4 : bad4 mc u (iN mc (fi mc u + k)) (iA mc (fi mc u + k)) (iB mc (fi mc u + k)) (iC mc (fi mc u + k))
  · rw [tv_t b4, cI_t b4]; rfl
  rw [tv_f b4, cI_f b4, if_pos rfl, mo_ctr hn hc hi hu b2 b3 b4, Option.bind_some]
  by_cases b5 : bad5 mc u (iN mc (fi mc u + k)) (iA mc (fi mc u + k)) (iB mc (fi mc u + k)) (iC mc (fi mc u + k))
  · rw [tv_t b5, cI_t b5]; rfl
  rw [tv_f b5, cI_f b5, if_pos rfl, mo_way hc hu hks hfr hmn, Option.bind_some]
  by_cases b6 : bad6 (sz mc u) k (iN mc (fi mc u + k)) (iA mc (fi mc u + k)) (iB mc (fi mc u + k))
  · rw [tv_t b6, cI_t b6]; rfl
  · rw [tv_f b6, cI_f b6]; rfl
theorem sh_line {n : Nat} (hn : 5000 ≤ n) {ko : T_ko} {sh : T_sh} {mc : T_mc} (hc : CodeOK mc) (hk : KoRel ko mc) {u k : Nat} (hu : u < nU mc) (hks : k < sz mc u) (hsu : sh_unit sh = nI u) (hsi : sh_i sh = nI k) : r_Sh_faultHere n ko sh = some (lineG mc u k (sh_number sh).toInt (sh_a sh).toInt (sh_b sh).toInt (sh_c sh).toInt) := by
  unfold r_Sh_faultHere lineG
  rw [sh_num, Option.bind_some]
  by_cases b2 : bad2 (sh_number sh).toInt (sh_a sh).toInt (sh_b sh).toInt (sh_c sh).toInt
  · rw [tv_f (fun q => q b2), cI_t b2]; rfl
  rw [tv_t b2, cI_f b2, if_neg (by decide), sh_unit_ok hc hk hu hsu, Option.bind_some]
  by_cases b3 : bad3 mc u (sh_number sh).toInt (sh_a sh).toInt
  · rw [tv_t b3, cI_t b3]; rfl
  rw [tv_f b3, cI_f b3, if_pos rfl, sh_frame hc hk hu hsu b2 b3, Option.bind_some]
  by_cases b4 : bad4 mc u (sh_number sh).toInt (sh_a sh).toInt (sh_b sh).toInt (sh_c sh).toInt
  · rw [tv_t b4, cI_t b4]; rfl
  rw [tv_f b4, cI_f b4, if_pos rfl, sh_ctr hn hc hk hu hsu b2 b3, Option.bind_some]
  by_cases b5 : bad5 mc u (sh_number sh).toInt (sh_a sh).toInt (sh_b sh).toInt (sh_c sh).toInt
  · rw [tv_t b5, cI_t b5]; rfl
  rw [tv_f b5, cI_f b5, if_pos rfl, sh_way hc hk hu hsu hsi hks, Option.bind_some]
  by_cases b6 : bad6 (sz mc u) k (sh_number sh).toInt (sh_a sh).toInt (sh_b sh).toInt
  · rw [tv_t b6, cI_t b6]; rfl
  · rw [tv_f b6, cI_f b6]; rfl
theorem sh_look {n : Nat} {ko : T_ko} {sh : T_sh} {mc : T_mc} (hc : CodeOK mc) (hk : KoRel ko mc) {u k : Nat} (hu : u < nU mc) (hks : k < sz mc u) (hsu : sh_unit sh = nI u) :
    ∃ sh', r_Sh_lookAt n ko sh (nI k) = some sh' ∧ sh_unit sh' = nI u ∧ sh_i sh' = nI k ∧ sh_number sh' = mc_numbers mc (fi mc u + k) ∧ sh_a sh' = mc_as_ mc (fi mc u + k) ∧ sh_b sh' = mc_bs mc (fi mc u + k) ∧ sh_c sh' = mc_cs mc (fi mc u + k) := by
  unfold r_Sh_lookAt
  rw [show sh_unit (sh_i_s sh (nI k)) = nI u from hsu, co_numberAt hc hk hu hks, Option.bind_some]
  rw [show sh_unit (sh_number_s (sh_i_s sh (nI k)) (mc_numbers mc (fi mc u + k))) = nI u from hsu, co_aAt hc hk hu hks, Option.bind_some]
  rw [show sh_unit (sh_a_s (sh_number_s (sh_i_s sh (nI k)) (mc_numbers mc (fi mc u + k))) (mc_as_ mc (fi mc u + k))) = nI u from hsu, co_bAt hc hk hu hks, Option.bind_some]
  rw [show sh_unit (sh_b_s (sh_a_s (sh_number_s (sh_i_s sh (nI k)) (mc_numbers mc (fi mc u + k))) (mc_as_ mc (fi mc u + k))) (mc_bs mc (fi mc u + k))) = nI u from hsu, co_cAt hc hk hu hks, Option.bind_some]
  exact ⟨_, rfl, hsu, rfl, rfl, rfl, rfl, rfl⟩
/-- the first fault among m lines from k on -/
noncomputable def lf (mc : T_mc) (u : Nat) : Nat → Nat → Int32
  | _, 0 => 0
  | k, m + 1 => if lineF mc u k = 0 then lf mc u (k + 1) m else lineF mc u k
theorem lf_0 {mc : T_mc} {u : Nat} : ∀ (m k : Nat), lf mc u k m = 0 → ∀ j, k ≤ j → j < k + m → lineF mc u j = 0 := by
  intro m
  induction m with
  | zero => intro k _ j a b; omega
  | succ m ih =>
    intro k h j a b
    rw [lf] at h
    split at h
    · rename_i e
      by_cases q : j = k
      · rw [q]; exact e
      · exact ih (k + 1) h j (by omega) (by omega)
    · rename_i e; exact absurd h e
theorem lf_ge {mc : T_mc} {u : Nat} : ∀ (m k : Nat), 0 ≤ (lf mc u k m).toInt := by
  intro m
  induction m with
  | zero => intro k; rw [lf]; decide
  | succ m ih =>
    intro k; rw [lf]
    split
    · exact ih _
    · exact lineF_ge _ _ _
theorem sh_lines {n : Nat} (hn : 5000 ≤ n) {ko : T_ko} {mc : T_mc} (hc : CodeOK mc) (hk : KoRel ko mc) {u : Nat} (hu : u < nU mc) : ∀ (m f k : Nat) (sh : T_sh), k + m = sz mc u → m < f → sh_unit sh = nI u → ∃ sh', r_Sh_faultOf_l30 n ko f sh (nI (sz mc u)) (nI k) = some (lf mc u k m, sh') := by
  have hf := fi_le hc hu
  intro m
  induction m with
  | zero =>
    intro f k sh a b c
    match f, b with
    | f + 1, _ =>
      rw [r_Sh_faultOf_l30, if_pos (by rw [i_le, nI_t (by omega), nI_t (by omega)]; omega), lf]
      exact ⟨sh, rfl⟩
  | succ m ih =>
    intro f k sh a b c
    match f, b with
    | f + 1, b =>
      have hks : k < sz mc u := by omega
      rw [r_Sh_faultOf_l30, if_neg (by rw [i_le, nI_t (by omega), nI_t (by omega)]; omega), lf]
      obtain ⟨sh', e1, e2, e3, e4, e5, e6, e7⟩ := sh_look (n := n) hc hk hu hks c
      rw [e1, Option.bind_some, sh_line hn hc hk hu hks e2 e3, e4, e5, e6, e7, Option.bind_some]
      show ∃ sh'', (if lineF mc u k = 0 then _ else some (lineF mc u k, sh')) = _
      by_cases z : lineF mc u k = 0
      · rw [if_pos z, if_pos z, nI_1]
        exact ih f (k + 1) sh' (by omega) (by omega) e2
      · rw [if_neg z, if_neg z]; exact ⟨sh', rfl⟩
def meets (mc : T_mc) (u v : Nat) : Prop := 0 ≤ plc mc v ∧ 0 < frm mc v ∧ plc mc v < plc mc u + frm mc u ∧ plc mc u < plc mc v + frm mc v
def bad1 (mc : T_mc) (u : Nat) : Prop := (u + 1 = nU mc ∧ plc mc u ≠ 0) ∨ (0 ≤ plc mc u ∧ frm mc u ≠ 0 ∧ ((mc_size mc).toInt < plc mc u + frm mc u ∨ ∃ v, 0 ≤ v ∧ v < u ∧ meets mc u v))
theorem sh_meets {n : Nat} {ko : T_ko} {sh : T_sh} {mc : T_mc} (hc : CodeOK mc) (hk : KoRel ko mc) {u : Nat} (hu : u < nU mc) (hsu : sh_unit sh = nI u) (hp : 0 ≤ plc mc u) (hfr : frm mc u ≠ 0) {x1 x2 : Int32} (e1 : x1.toInt = plc mc u) (e2 : x2.toInt = plc mc u + frm mc u) :
    ∀ (f v : Nat), v ≤ u → u < v + f → r_Sh_meetsEarlierUnit_l2 n ko sh f x1 x2 (nI v) = some (tv (∃ v', v ≤ v' ∧ v' < u ∧ meets mc u v')) := by
  have h16 := hc.2.1
  have hfu := hc.2.2.2.2.2.2.2.1 u hu
  intro f
  induction f with
  | zero => intro v a b; omega
  | succ f ih =>
    intro v a b
    rw [r_Sh_meetsEarlierUnit_l2, hsu]
    by_cases e : v = u
    · rw [if_pos (by rw [e]; exact i_le.mpr (Int.le_refl _))]; exact s0 (ex_none (by omega))
    · have hv : v < nU mc := by omega
      have hfv := hc.2.2.2.2.2.2.2.1 v hv
      rw [if_neg (by rw [i_le, nI_t (by omega), nI_t (by omega)]; omega), co_place hc hk hv, co_frame hc hk hv]
      simp only [Option.bind_some, nI_1]
      rw [ih (v + 1) (by omega) (by omega)]
      have q1 : (mc_places mc v).toInt = plc mc v := rfl
      have q2 : (mc_frames mc v).toInt = frm mc v := rfl
      have q3 : (mc_frames mc u).toInt = frm mc u := rfl
      have q4 : (mc_places mc u).toInt = plc mc u := rfl
      have sum : (mc_places mc v + mc_frames mc v).toInt = plc mc v + frm mc v := by rw [i_add (by omega) (by omega)]; rfl
      by_cases c1 : mc_places mc v = -1
      · rw [if_pos c1]; rw [i_eq, km1, q1] at c1
        refine congrArg some (tv_c ?_); rw [ex_step (P := meets mc u) (show v < u by omega)]; unfold meets; constructor
        · exact Or.inr
        · rintro (h | h)
          · omega
          · exact h
      · rw [if_neg c1]; rw [i_eq, km1, q1] at c1
        have key : ((if mc_places mc v + mc_frames mc v < x2 then mc_places mc v + mc_frames mc v else x2) ≤ (if x1 < mc_places mc v then mc_places mc v else x1)) ↔ ¬ meets mc u v := by
          unfold meets
          (repeat' split) <;> (simp only [i_le, i_lt, sum, e1, e2, q1] at *) <;> omega
        by_cases c2 : meets mc u v
        · rw [if_neg (fun q => key.mp q c2)]
          refine s1 ?_; rw [ex_step (P := meets mc u) (show v < u by omega)]; exact Or.inl c2
        · rw [if_pos (key.mpr c2)]
          refine congrArg some (tv_c ?_); rw [ex_step (P := meets mc u) (show v < u by omega)]; exact ⟨Or.inr, fun h => h.elim (fun h => absurd h c2) id⟩
theorem sh_place {n : Nat} (hn : 5000 ≤ n) {ko : T_ko} {sh : T_sh} {mc : T_mc} (hc : CodeOK mc) (hk : KoRel ko mc) {u : Nat} (hu : u < nU mc) (hsu : sh_unit sh = nI u) : r_Sh_isPlacedWrong n ko sh (mc_size mc) = some (tv (bad1 mc u)) := by
  have h16 := hc.2.1
  have hfu := hc.2.2.2.2.2.2.2.1 u hu
  have hsz := hc.2.2.2.2.2.2.2.2
  have q3 : (mc_frames mc u).toInt = frm mc u := rfl
  have q4 : (mc_places mc u).toInt = plc mc u := rfl
  have sum : (mc_places mc u + mc_frames mc u).toInt = plc mc u + frm mc u := by rw [i_add (by omega) (by omega)]; rfl
  have hu1 : ko_units ko - 1 = nI (nU mc - 1) := by rw [hk.1, hc.1, show (1 : Int32) = nI 1 from rfl, pk_sub (by omega)]
  have j46 : ¬ (u + 1 = nU mc ∧ plc mc u ≠ 0) → r_Sh_isPlacedWrong_j46 n ko sh (mc_size mc) (mc_places mc u) (mc_frames mc u) = some (tv (bad1 mc u)) := by
    intro h0
    unfold r_Sh_isPlacedWrong_j46 r_Sh_meetsEarlierUnit
    by_cases c1 : mc_places mc u = -1
    · rw [if_pos c1]; rw [i_eq, km1, q4] at c1; refine s0 ?_; unfold bad1; rintro (h | h) <;> omega
    rw [if_neg c1]; rw [i_eq, km1, q4] at c1
    by_cases c2 : mc_frames mc u = 0
    · rw [if_pos c2]; rw [i_eq, k0, q3] at c2; refine s0 ?_; unfold bad1; rintro (h | h) <;> omega
    rw [if_neg c2]; rw [i_eq, k0, q3] at c2
    by_cases c3 : mc_size mc < mc_places mc u + mc_frames mc u
    · rw [if_pos c3]; rw [i_lt, sum] at c3; exact s1 (Or.inr ⟨by omega, c2, Or.inl c3⟩)
    rw [if_neg c3]; rw [i_lt, sum] at c3
    rw [show (0 : Int32) = nI 0 from rfl, sh_meets hc hk hu hsu (by omega) c2 q4 sum n 0 (Nat.zero_le _) (by omega), Option.bind_some]
    by_cases m : ∃ v', 0 ≤ v' ∧ v' < u ∧ meets mc u v'
    · rw [tv_t m]; exact s1 (Or.inr ⟨by omega, c2, Or.inr m⟩)
    · rw [tv_f m]; refine s0 ?_
      rintro (h | ⟨-, -, h | h⟩)
      · exact h0 h
      · exact c3 h
      · exact m h
  unfold r_Sh_isPlacedWrong r_Co_unitCount
  rw [hsu, co_place hc hk hu, co_frame hc hk hu]
  simp only [Option.bind_some]
  rw [hu1]
  by_cases c1 : nI u = nI (nU mc - 1)
  · rw [if_pos c1]
    rw [i_eq, nI_t (by omega), nI_t (by omega)] at c1
    by_cases c2 : mc_places mc u = 0
    · rw [if_pos c2, j46]; rw [i_eq, k0, q4] at c2; omega
    · rw [if_neg c2]; rw [i_eq, k0, q4] at c2; exact s1 (Or.inl ⟨by omega, c2⟩)
  · rw [if_neg c1, j46]
    rw [i_eq, nI_t (by omega), nI_t (by omega)] at c1; omega
theorem sh_fault {n : Nat} (hn : 5000 ≤ n) {ko : T_ko} {mc : T_mc} (hc : CodeOK mc) (hk : KoRel ko mc) {u : Nat} (hu : u < nU mc) (sh : T_sh) : ∃ sh', r_Sh_faultOf n ko sh (nI u) (mc_size mc) = some (cI (bad1 mc u) 1 (lf mc u 0 (sz mc u)), sh') := by
  have hf := fi_le hc hu
  unfold r_Sh_faultOf
  rw [sh_place hn hc hk hu rfl, Option.bind_some]
  by_cases b : bad1 mc u
  · rw [tv_t b, cI_t b]; exact ⟨_, rfl⟩
  · rw [tv_f b, cI_f b, if_pos rfl, show sh_unit (sh_unit_s sh (nI u)) = nI u from rfl, co_size hc hk hu, Option.bind_some]
    exact sh_lines hn hc hk hu (sz mc u) n 0 _ (by omega) (by omega) rfl
