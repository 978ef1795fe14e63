/-! the stack of a unit, the reference's side -/
def agr (S : Nat) (a b : Nat → Int32) : Prop := ∀ i, i < S → a i = b i
theorem cOK_c {S t : Nat} {a b : Nat → Int32} {d : Int32} (h : agr S a b) (ht : t ≤ S) : cOK S a t d ↔ cOK S b t d := by
  unfold cOK
  by_cases e : t = S
  · exact ⟨fun z => z.elim Or.inl (fun z => absurd e z.1), fun z => z.elim Or.inl (fun z => absurd e z.1)⟩
  · rw [h t (by omega)]
theorem cUp_c {S t : Nat} {a b : Nat → Int32} {d : Int32} (h : agr S a b) : agr S (cUp S a t d) (cUp S b t d) := by
  intro i hi
  unfold cUp
  by_cases e : t < S
  · rw [h t e]
    split
    · by_cases z : i = t
      · rw [z, upd_at, upd_at]
      · rw [upd_ne z, upd_ne z]; exact h i hi
    · exact h i hi
  · rw [if_neg (fun z => e z.1), if_neg (fun z => e z.1)]; exact h i hi
theorem d1_c {mc : T_mc} {u k : Nat} {a b : Nat → Int32} {d : Int32} (h : agr (sz mc u) a b) : agr (sz mc u) (d1 mc u k a d) (d1 mc u k b d) := by
  unfold d1
  by_cases g : gOn (uN mc u k)
  · rw [if_pos g, if_pos g]; exact cUp_c h
  · rw [if_neg g, if_neg g]; exact h
theorem dT_c {mc : T_mc} {u k : Nat} {a b : Nat → Int32} {d : Int32} (h : agr (sz mc u) a b) : agr (sz mc u) (dT mc u k a d) (dT mc u k b d) := by
  cases e : uT mc u k with
  | none => rw [dT_none e, dT_none e]; exact h
  | some t => rw [dT_some e, dT_some e]; exact cUp_c h
theorem sC_c {mc : T_mc} {u k : Nat} {a b : Nat → Int32} (hl : linesOK mc u) (hks : k < sz mc u) (h : agr (sz mc u) a b) : sC mc u k a = sC mc u k b := by
  have e : sOK mc u k a (dB mc u k (b k)) ↔ sOK mc u k b (dB mc u k (b k)) := by
    unfold sOK
    constructor
    · exact fun z => ⟨fun g => (cOK_c h (by omega)).mp (z.1 g), fun t ht => (cOK_c (d1_c h) (uT_le hl hks ht)).mp (z.2 t ht)⟩
    · exact fun z => ⟨fun g => (cOK_c h (by omega)).mpr (z.1 g), fun t ht => (cOK_c (d1_c h) (uT_le hl hks ht)).mpr (z.2 t ht)⟩
  unfold sC
  rw [h k hks, propext e]
theorem stR_c2 {mc : T_mc} {u : Nat} (hl : linesOK mc u) : ∀ (m k : Nat) (a b : Nat → Int32), k + m = sz mc u → agr (sz mc u) a b → (stR mc u m k a).1 = (stR mc u m k b).1 ∧ agr (sz mc u) (stR mc u m k a).2 (stR mc u m k b).2 := by
  intro m
  induction m with
  | zero => intro k a b e h; exact ⟨rfl, h⟩
  | succ m ih =>
    intro k a b e h
    have hks : k < sz mc u := by omega
    rw [stR, stR, h k hks, sC_c hl hks h]
    by_cases c : (b k).toInt < 0
    · rw [if_pos c, if_pos c]; exact ih (k + 1) a b (by omega) h
    · rw [if_neg c, if_neg c]
      by_cases z : sC mc u k b = 0
      · rw [if_pos z, if_pos z]; exact ih (k + 1) _ _ (by omega) (dT_c (d1_c h))
      · rw [if_neg z, if_neg z]; exact ⟨rfl, h⟩
/-- what the reference does with a unit's depths and then its steps, out of the depths' run -/
theorem mo_run {n : Nat} {mc : T_mc} (hc : CodeOK mc) {u : Nat} (hu : u < nU mc) (hl : linesOK mc u) : ∀ (m f k : Nat) (mq : T_mq), k + m = sz mc u → m < f → mq_from_ mq = nI (fi mc u) → mq_many mq = nI (sz mc u) → dVR (sz mc u) (mq_depths mq) →
    ∃ dm', ((stR mc u m k (mq_depths mq)).1 ≠ 0 → r_Mo_unitFault_l126 n mc f mq (nI u) (nI k) = some ((stR mc u m k (mq_depths mq)).1, mq_depths_s mq dm')) ∧ ((stR mc u m k (mq_depths mq)).1 = 0 → dm' = (stR mc u m k (mq_depths mq)).2 ∧ ∃ f', r_Mo_unitFault_l126 n mc f mq (nI u) (nI k) = r_Mo_unitFault_l126 n mc (f' + 1) (mq_depths_s mq dm') (nI u) (nI (sz mc u))) := by
  have hf := fi_le hc hu
  intro m
  induction m with
  | zero =>
    intro f k mq a b hfr hmn hV
    match f, b with
    | f + 1, _ =>
      refine ⟨mq_depths mq, fun h => absurd rfl h, fun _ => ⟨rfl, f, ?_⟩⟩
      rw [show k = sz mc u by omega]; rfl
  | succ m ih =>
    intro f k mq a b hfr hmn hV
    match f, b with
    | f + 1, b =>
      have hks : k < sz mc u := by omega
      have j152 : ∀ (m2 : T_mq) (y : Int32), r_Mo_unitFault_j152 n mc (r_Mo_unitFault_l126 n mc f) m2 (nI u) (nI k) y = if y ≤ 0 then r_Mo_unitFault_l126 n mc f m2 (nI u) (nI (k + 1)) else some (y, m2) := fun m2 y => by unfold r_Mo_unitFault_j152; rw [nI_1]
      have unf : r_Mo_unitFault_l126 n mc (f + 1) mq (nI u) (nI k) = if 0 ≤ mq_depths mq k then (r_Mo_stackFault n mc mq (nI k)).bind (fun q11 => r_Mo_unitFault_j152 n mc (r_Mo_unitFault_l126 n mc f) q11.2 (nI u) (nI k) q11.1) else r_Mo_unitFault_j152 n mc (r_Mo_unitFault_l126 n mc f) mq (nI u) (nI k) 0 := by
        rw [r_Mo_unitFault_l126, hmn, if_neg (by rw [i_le, nI_t (by omega), nI_t (by omega)]; omega), gr_nI (by omega) (by decide)]
      rw [unf, stR]
      rcases hV k hks with v | v
      · rw [if_neg (show ¬ (0 : Int32) ≤ mq_depths mq k by rw [v]; decide), if_pos (show (mq_depths mq k).toInt < 0 by rw [v, km1]; omega), j152, if_pos (show (0 : Int32) ≤ 0 by decide)]
        exact ih f (k + 1) mq (by omega) (by omega) hfr hmn hV
      · obtain ⟨dm', x, y⟩ := mo_stk (n := n) hc hu hks hl hfr hmn v
        rw [if_pos (show (0 : Int32) ≤ mq_depths mq k by rw [i_le, k0]; omega), if_neg (show ¬ (mq_depths mq k).toInt < 0 by omega), x, Option.bind_some, j152]
        by_cases z : sC mc u k (mq_depths mq) = 0
        · rw [if_pos z, if_pos (show sC mc u k (mq_depths mq) ≤ 0 by rw [z]; decide), ← y z]
          obtain ⟨dm2, p1, p2⟩ := ih f (k + 1) (mq_depths_s mq dm') (by omega) (by omega) hfr hmn (by rw [show mq_depths (mq_depths_s mq dm') = dm' from rfl, y z]; exact st_VR hl hks hV v z)
          exact ⟨dm2, p1, p2⟩
        · have g := sC_ge mc u k (mq_depths mq)
          have z' : (sC mc u k (mq_depths mq)).toInt ≠ 0 := fun e => z (by rw [i_eq, k0]; exact e)
          rw [if_neg z, if_neg (show ¬ sC mc u k (mq_depths mq) ≤ 0 by rw [i_le, k0]; omega)]
          exact ⟨dm', fun _ => rfl, fun h => absurd h z⟩
theorem mo_init {n : Nat} {mc : T_mc} {u : Nat} (hS : sz mc u ≤ 256) : ∀ (m f k : Nat) (mq : T_mq), k + m = sz mc u + 1 → m < f → mq_many mq = nI (sz mc u) → (∀ i, i < k → mq_depths mq i = dm0 i) → ∃ dm, r_Mo_unitFault_l95 n mc f mq (nI u) (nI k) = r_Mo_unitFault_l126 n mc n (mq_depths_s mq dm) (nI u) 0 ∧ ∀ i, i ≤ sz mc u → dm i = dm0 i := by
  intro m
  induction m with
  | zero =>
    intro f k mq a b hmn h
    match f, b with
    | f + 1, _ =>
      rw [r_Mo_unitFault_l95, hmn, if_pos (by rw [i_lt, nI_t (by omega), nI_t (by omega)]; omega)]
      exact ⟨mq_depths mq, rfl, fun i hi => h i (by omega)⟩
  | succ m ih =>
    intro f k mq a b hmn h
    match f, b with
    | f + 1, b =>
      rw [r_Mo_unitFault_l95, hmn, if_neg (by rw [i_lt, nI_t (by omega), nI_t (by omega)]; omega), ga_nI (by omega) (by decide), ga_nI (by omega) (by decide), nI_clamp (by omega), nI_1]
      have key : ∀ v, v = dm0 k → ∃ dm, r_Mo_unitFault_l95 n mc f (mq_depths_s mq (upd (mq_depths mq) k v)) (nI u) (nI (k + 1)) = r_Mo_unitFault_l126 n mc n (mq_depths_s mq dm) (nI u) 0 ∧ ∀ i, i ≤ sz mc u → dm i = dm0 i := fun v hv => by
        obtain ⟨dm, e1, e2⟩ := ih f (k + 1) (mq_depths_s mq (upd (mq_depths mq) k v)) (by omega) (by omega) hmn (fun i hi => by
          show upd (mq_depths mq) k v i = _
          by_cases z : i = k
          · rw [z, upd_at, hv]
          · rw [upd_ne z]; exact h i (by omega))
        exact ⟨dm, e1, e2⟩
      by_cases c : k = 0
      · rw [if_pos (by rw [c]; rfl)]; exact key 0 (by unfold dm0; rw [if_pos c])
      · rw [if_neg (by rw [i_eq, nI_t (by omega), k0]; omega)]; exact key (-1) (by unfold dm0; rw [if_neg c])
/-- a unit in the reference: faults 1 to 10, then its steps -/
theorem mo_unitFault {n : Nat} (hn : 5000 ≤ n) {mc : T_mc} (hc : CodeOK mc) {u : Nat} (hu : u < nU mc) (mq : T_mq) :
    (bad1 mc u → r_Mo_unitFault n mc mq (nI u) = some (1, mq)) ∧
    (¬ bad1 mc u → lf mc u 0 (sz mc u) ≠ 0 → ∃ mq', r_Mo_unitFault n mc mq (nI u) = some (lf mc u 0 (sz mc u), mq') ∧ mq_steps mq' = mq_steps mq) ∧
    (¬ bad1 mc u → linesOK mc u → ¬ loopsOK mc u → ∃ mq', r_Mo_unitFault n mc mq (nI u) = some (7, mq') ∧ mq_steps mq' = mq_steps mq) ∧
    (¬ bad1 mc u → linesOK mc u → loopsOK mc u → (stR mc u (sz mc u) 0 dm0).1 ≠ 0 → ∃ mq', r_Mo_unitFault n mc mq (nI u) = some ((stR mc u (sz mc u) 0 dm0).1, mq') ∧ mq_steps mq' = mq_steps mq) ∧
    (¬ bad1 mc u → linesOK mc u → loopsOK mc u → (stR mc u (sz mc u) 0 dm0).1 = 0 → ∃ mq2 f', mq_from_ mq2 = nI (fi mc u) ∧ mq_many mq2 = nI (sz mc u) ∧ mq_steps mq2 = mq_steps mq ∧ r_Mo_unitFault n mc mq (nI u) = r_Mo_unitFault_l126 n mc (f' + 1) mq2 (nI u) (nI (sz mc u))) := by
  have hf := fi_le hc hu
  have h16 := hc.2.1
  have hF1 := hc.2.2.2.2.2.2.1 u (by omega)
  have hF2 := hc.2.2.2.2.2.2.1 (u + 1) (by omega)
  have h256 := hc.2.2.2.1
  have e0 : ¬ bad1 mc u → r_Mo_unitFault n mc mq (nI u) = r_Mo_unitFault_l39 n mc n (mq_many_s (mq_from__s mq (nI (fi mc u))) (nI (sz mc u))) (nI u) (nI 0) := fun b => by
    unfold r_Mo_unitFault
    rw [mo_place hn hc hu, tv_f b, Option.bind_some, if_pos rfl, nI_1, gr_nI (by omega) (by decide), gr_nI (by omega) (by decide), hF1, hF2]
    show r_Mo_unitFault_l39 n mc n (mq_many_s (mq_from__s mq (nI (fi mc u))) (nI (fi mc (u + 1)) - nI (fi mc u))) (nI u) 0 = _
    rw [pk_sub hf.1]; rfl
  generalize hm1 : mq_many_s (mq_from__s mq (nI (fi mc u))) (nI (sz mc u)) = m1 at e0
  have g1 : mq_from_ m1 = nI (fi mc u) := by rw [← hm1]; rfl
  have g2 : mq_many m1 = nI (sz mc u) := by rw [← hm1]; rfl
  have g3 : mq_steps m1 = mq_steps mq := by rw [← hm1]; rfl
  have L39 : ∀ (m f k : Nat), k + m = sz mc u → m < f → r_Mo_unitFault_l39 n mc f m1 (nI u) (nI k) = if lf mc u k m = 0 then r_Mo_unitFault_l68 n mc n m1 (nI u) (nI 0) else some (lf mc u k m, m1) := by
    intro m
    induction m with
    | zero =>
      intro f k a b
      match f, b with
      | f + 1, _ => rw [r_Mo_unitFault_l39, g2, if_pos (by rw [i_le, nI_t (by omega), nI_t (by omega)]; omega), lf, if_pos rfl]; rfl
    | succ m ih =>
      intro f k a b
      match f, b with
      | f + 1, b =>
        rw [r_Mo_unitFault_l39, g2, if_neg (by rw [i_le, nI_t (by omega), nI_t (by omega)]; omega), mo_line hn hc hu (by omega) g1 g2, Option.bind_some, nI_1, ih f (k + 1) (by omega) (by omega), lf]
        by_cases z : lineF mc u k = 0
        · rw [if_pos (by rw [z]; decide), if_pos z]
        · have g := lineF_ge mc u k
          have z' : (lineF mc u k).toInt ≠ 0 := fun e => z (by rw [i_eq, k0]; exact e)
          rw [if_neg (by rw [i_le, k0]; omega), if_neg z, if_neg z]
  have L68 : linesOK mc u → ∀ (f k : Nat), k ≤ sz mc u → sz mc u < k + f → (∀ j, j < k → ¬ bad7 mc u j) → (loopsOK mc u → r_Mo_unitFault_l68 n mc f m1 (nI u) (nI k) = r_Mo_unitFault_l95 n mc n m1 (nI u) (nI 0)) ∧ (¬ loopsOK mc u → r_Mo_unitFault_l68 n mc f m1 (nI u) (nI k) = some (7, m1)) := by
    intro hl f
    induction f with
    | zero => intro k a b; omega
    | succ f ih =>
      intro k a b h
      rw [r_Mo_unitFault_l68, g2]
      by_cases e : k = sz mc u
      · rw [if_pos (by rw [e]; exact i_le.mpr (Int.le_refl _))]
        exact ⟨fun _ => rfl, fun z => absurd (fun j hj => h j (by omega)) z⟩
      · rw [if_neg (by rw [i_le, nI_t (by omega), nI_t (by omega)]; omega), mo_loop hn hc hu (by omega) hl g1 g2, Option.bind_some, nI_1]
        by_cases c : bad7 mc u k
        · rw [if_neg (by rw [tv_t c]; decide)]
          exact ⟨fun z => absurd c (z k (by omega)), fun _ => rfl⟩
        · rw [if_pos (tv_f c)]
          exact ih (k + 1) (by omega) (by omega) (fun j hj => by
            by_cases ej : j = k
            · rw [ej]; exact c
            · exact h j (by omega))
  have lf0 : linesOK mc u → lf mc u 0 (sz mc u) = 0 := fun hl => by
    have : ∀ (m k : Nat), k + m = sz mc u → lf mc u k m = 0 := by
      intro m
      induction m with
      | zero => intro k _; rfl
      | succ m ih => intro k a; rw [lf, if_pos (hl k (by omega))]; exact ih (k + 1) (by omega)
    exact this _ _ (by omega)
  have pre : ¬ bad1 mc u → linesOK mc u → loopsOK mc u → ∃ dm, r_Mo_unitFault n mc mq (nI u) = r_Mo_unitFault_l126 n mc n (mq_depths_s m1 dm) (nI u) 0 ∧ ∀ i, i ≤ sz mc u → dm i = dm0 i := fun b hl ho => by
    rw [e0 b, L39 (sz mc u) n 0 (by omega) (by omega), if_pos (lf0 hl), ((L68 hl n 0 (Nat.zero_le _) (by omega) (fun j hj => absurd hj (Nat.not_lt_zero j))).1 ho)]
    exact mo_init (by omega) (sz mc u + 1) n 0 m1 (by omega) (by omega) g2 (fun i hi => absurd hi (Nat.not_lt_zero i))
  refine ⟨fun b => ?_, fun b h => ?_, fun b hl ho => ?_, fun b hl ho h => ?_, fun b hl ho h => ?_⟩
  · unfold r_Mo_unitFault; rw [mo_place hn hc hu, tv_t b]; rfl
  · exact ⟨m1, by rw [e0 b, L39 (sz mc u) n 0 (by omega) (by omega), if_neg h], g3⟩
  · exact ⟨m1, by rw [e0 b, L39 (sz mc u) n 0 (by omega) (by omega), if_pos (lf0 hl), ((L68 hl n 0 (Nat.zero_le _) (by omega) (fun j hj => absurd hj (Nat.not_lt_zero j))).2 ho)], g3⟩
  · obtain ⟨dm, p1, p2⟩ := pre b hl ho
    have hag : agr (sz mc u) dm dm0 := fun i hi => p2 i (by omega)
    have hcg := stR_c2 hl (sz mc u) 0 dm dm0 (by omega) hag
    obtain ⟨dm', q1, q2⟩ := mo_run (n := n) hc hu hl (sz mc u) n 0 (mq_depths_s m1 dm) (by omega) (by omega) g1 g2 (fun i hi => by rw [show mq_depths (mq_depths_s m1 dm) = dm from rfl, hag i hi]; exact dm0_VR (sz mc u) i hi)
    have := q1 (by rw [show mq_depths (mq_depths_s m1 dm) = dm from rfl, hcg.1]; exact h)
    rw [show mq_depths (mq_depths_s m1 dm) = dm from rfl, hcg.1] at this
    exact ⟨_, p1.trans this, g3⟩
  · obtain ⟨dm, p1, p2⟩ := pre b hl ho
    have hag : agr (sz mc u) dm dm0 := fun i hi => p2 i (by omega)
    have hcg := stR_c2 hl (sz mc u) 0 dm dm0 (by omega) hag
    obtain ⟨dm', q1, q2⟩ := mo_run (n := n) hc hu hl (sz mc u) n 0 (mq_depths_s m1 dm) (by omega) (by omega) g1 g2 (fun i hi => by rw [show mq_depths (mq_depths_s m1 dm) = dm from rfl, hag i hi]; exact dm0_VR (sz mc u) i hi)
    obtain ⟨-, f', e'⟩ := q2 (by rw [show mq_depths (mq_depths_s m1 dm) = dm from rfl, hcg.1]; exact h)
    exact ⟨mq_depths_s (mq_depths_s m1 dm) dm', f', g1, g2, g3, p1.trans e'⟩
