/-! THE PURE LEVEL, by hand. Numbers first; then what related states are; then the calls that need no proof of the code. -/
theorem i_lt {x y : Int32} : x < y ↔ x.toInt < y.toInt := Int32.lt_iff_toInt_lt
theorem i_le {x y : Int32} : x ≤ y ↔ x.toInt ≤ y.toInt := Int32.le_iff_toInt_le
theorem i_eq {x y : Int32} : x = y ↔ x.toInt = y.toInt := Int32.toInt_inj.symm
theorem i_ge (x : Int32) : -2147483648 ≤ x.toInt := Int32.le_toInt x
theorem i_lt31 (x : Int32) : x.toInt < 2147483648 := Int32.toInt_lt x
theorem nI_t {n : Nat} (h : n < 2147483648) : (nI n).toInt = (n : Int) := nI_toInt h
theorem i_nat {x : Int32} (h : 0 ≤ x.toInt) : x = nI x.toInt.toNat := by
  rw [i_eq, nI_t (by have := i_lt31 x; omega)]; omega
theorem i_cl {x : Int32} (h : 0 ≤ x.toInt) : x.toNatClampNeg = x.toInt.toNat := by
  conv => lhs; rw [i_nat h]
  exact nI_clamp (by have := i_lt31 x; omega)
theorem ga_nI {α : Type} {i N : Nat} {k : Option α} (h : i < N) (hN : N < 2147483648) : ga (nI i) N k = k := by
  unfold ga; rw [if_pos]; rw [nI_t (by omega)]; omega
theorem gr_nI {α β : Type} {f : Nat → β} {i N : Nat} {k : β → Option α} (h : i < N) (hN : N < 2147483648) : gr f (nI i) N k = k (f i) := by
  unfold gr; rw [if_pos, nI_clamp (by omega)]; rw [nI_t (by omega)]; omega
theorem gb_0 {α : Type} {k : Option α} : gb 0 k = k := if_pos (Or.inl rfl)
theorem gb_1 {α : Type} {k : Option α} : gb 1 k = k := if_pos (Or.inr rfl)
/-- units, and where the instructions of one begin -/
def nU (mc : T_mc) : Nat := (mc_units mc).toNatClampNeg
def fi (mc : T_mc) (u : Nat) : Nat := (mc_firsts mc u).toNatClampNeg
def nT (mc : T_mc) : Nat := fi mc (nU mc)
def CodeOK (mc : T_mc) : Prop :=
  mc_units mc = nI (nU mc) ∧ nU mc ≤ 16 ∧ mc_total mc = nI (nT mc) ∧ nT mc ≤ 256 ∧ fi mc 0 = 0 ∧ (∀ u, u < nU mc → fi mc u ≤ fi mc (u + 1)) ∧ (∀ u, u ≤ nU mc → mc_firsts mc u = nI (fi mc u)) ∧
  (∀ u, u < nU mc → 0 ≤ (mc_frames mc u).toInt ∧ (mc_frames mc u).toInt ≤ 4096 ∧ -1 ≤ (mc_places mc u).toInt ∧ (mc_places mc u).toInt < 4096) ∧ 1 ≤ (mc_size mc).toInt ∧ (mc_size mc).toInt ≤ 4096
def KoRel (ko : T_ko) (mc : T_mc) : Prop :=
  ko_units ko = mc_units mc ∧ ko_length ko = mc_total mc ∧ (∀ u, u < nU mc → ko_frames ko u = mc_frames mc u ∧ ko_places ko u = mc_places mc u ∧ ko_firsts ko u = mc_firsts mc u ∧ ko_sizes ko u = nI (fi mc (u + 1) - fi mc u)) ∧
  ∀ j, j < nT mc → ko_numbers ko j = mc_numbers mc j ∧ ko_as_ ko j = mc_as_ mc j ∧ ko_bs ko j = mc_bs mc j ∧ ko_cs ko j = mc_cs mc j
def RunRel (Good : T_mc → T_mq → Prop) (ma : T_ma) (me : T_me) (ru : T_ru) (mc : T_mc) (mq : T_mq) (mr : T_mr) : Prop :=
  ma_total ma = mc_size mc ∧ ma_ready ma = mr_runs mr ∧ ma_now ma = mr_now mr ∧ ma_scans ma = mr_scans mr ∧ ma_faults ma = mr_faults mr ∧ ru_steps ru = mr_lastSteps mr ∧ me_deepest me = mr_deepest mr ∧ (∀ j, j < 4096 → me_cells me j = mr_cells mr j) ∧
  0 ≤ (mr_now mr).toInt ∧ (mr_now mr).toInt ≤ 2000000000 ∧
  ((mr_runs mr = 0 ∧ ma_allowed ma = 0 ∧ mr_now mr = 0 ∧ mr_scans mr = 0 ∧ mr_faults mr = 0 ∧ mr_lastSteps mr = 0 ∧ mr_deepest mr = 0 ∧ ∀ j, j < 4096 → mr_cells mr j = 0) ∨
   (mr_runs mr = 1 ∧ 0 < nU mc ∧ ma_allowed ma = (mq_steps mq (nU mc - 1)).toInt32 ∧ Good mc mq))
def RelG (Good : T_mc → T_mq → Prop) : RelT := fun ma ko _ _ _ _ me ru mc mq mr => CodeOK mc ∧ KoRel ko mc ∧ RunRel Good ma me ru mc mq mr
theorem stop_l {n : Nat} : ∀ (f i : Nat) (mr : T_mr), i ≤ 4096 → 4096 < i + f → ∃ g, r_Mo_stop_l32 n f mr (nI i) = some (mr_cells_s mr g) ∧ (∀ j, i ≤ j → j < 4096 → g j = 0) ∧ ∀ j, j < i → g j = mr_cells mr j := by
  intro f
  induction f with
  | zero => intro i mr h1 h2; omega
  | succ f ih =>
    intro i mr h1 h2
    rw [r_Mo_stop_l32]
    by_cases hi : i = 4096
    · subst hi
      exact ⟨mr_cells mr, by rw [if_pos (by decide)]; rfl, fun j a b => by omega, fun j _ => rfl⟩
    · rw [if_neg (by rw [i_le, nI_t (by omega)]; show ¬ (4096 : Int) ≤ _; omega), ga_nI (by omega) (by omega), nI_1, nI_clamp (by omega)]
      obtain ⟨g, e, g1, g2⟩ := ih (i + 1) (mr_cells_s mr (upd (mr_cells mr) i 0)) (by omega) (by omega)
      refine ⟨g, e, fun j a b => ?_, fun j a => ?_⟩
      · by_cases hj : j = i
        · subst hj; rw [g2 j (by omega)]; exact if_pos rfl
        · exact g1 j (by omega) b
      · rw [g2 j (by omega)]; exact if_neg (by omega)
/-- stop: all that scans show is 0 -/
theorem stop_ok {n : Nat} (hn : 5000 ≤ n) (mr : T_mr) : ∃ mr', r_Mo_stop n mr = some mr' ∧ mr_runs mr' = 0 ∧ mr_now mr' = 0 ∧ mr_scans mr' = 0 ∧ mr_faults mr' = 0 ∧ mr_lastSteps mr' = 0 ∧ mr_deepest mr' = 0 ∧ ∀ j, j < 4096 → mr_cells mr' j = 0 := by
  obtain ⟨g, e, g1, -⟩ := stop_l (n := n) n 0 ((mr_deepest_s (mr_faults_s (mr_scans_s (mr_lastSteps_s (mr_now_s (mr_runs_s mr (0 : Int32)) (0 : Int32)) (0 : Int32)) (0 : Int32)) (0 : Int32)) (0 : Int32))) (by omega) (by omega)
  exact ⟨_, e, rfl, rfl, rfl, rfl, rfl, rfl, fun j h => g1 j (by omega) h⟩
theorem halt_ok {Good : T_mc → T_mq → Prop} {ma : T_ma} {me : T_me} {ru : T_ru} {mc : T_mc} {mq : T_mq} {mr : T_mr} (n : Nat) (h : RunRel Good ma me ru mc mq mr) : ∃ ma' me' ru', r_Sm_halt n ma me ru = some (ma', me', ru') ∧ ma_total ma' = ma_total ma ∧ ma_ready ma' = 0 ∧ ma_allowed ma' = 0 ∧ ma_now ma' = 0 ∧ ma_scans ma' = 0 ∧ ma_faults ma' = 0 ∧ ru_steps ru' = 0 ∧ me_deepest me' = 0 ∧ ∀ j, j < 4096 → me_cells me' j = 0 := by
  obtain ⟨h1, h2, h3, h4, h5, h6, h7, h8, h9, h10, h11⟩ := h
  unfold r_Sm_halt
  rcases h11 with ⟨a, b, c, d, e, f, g, i⟩ | ⟨a, b, c, d⟩
  · refine ⟨ma, me, ru, by rw [if_pos (by rw [h2, a])], rfl, by rw [h2, a], b, by rw [h3, c], by rw [h4, d], by rw [h5, e], by rw [h6, f], by rw [h7, g], fun j hj => by rw [h8 j hj, i j hj]⟩
  · have e : (if ma_ready ma = 0 then some (ma, me, ru) else (r_Me_clear n me).bind (fun q2 => some ((ma_faults_s (ma_scans_s (ma_now_s (ma_allowed_s (ma_ready_s ma (0 : Int32)) (0 : Int32)) (0 : Int32)) (0 : Int32)) (0 : Int32)), q2, (ru_steps_s ru (0 : Int32))))) = some ((ma_faults_s (ma_scans_s (ma_now_s (ma_allowed_s (ma_ready_s ma (0 : Int32)) (0 : Int32)) (0 : Int32)) (0 : Int32)) (0 : Int32)), (me_deepest_s (me_depth_s (me_cells_s me (fun _ => (0 : Int32))) (0 : Int32)) (0 : Int32)), (ru_steps_s ru (0 : Int32))) := by
      rw [if_neg (by rw [h2, a]; decide)]; rfl
    exact ⟨_, _, _, e, rfl, rfl, rfl, rfl, rfl, rfl, rfl, rfl, fun j hj => rfl⟩
/-- behind halt and stop the states are related, whatever the code -/
theorem run0 {Good : T_mc → T_mq → Prop} {ma' : T_ma} {me' : T_me} {ru' : T_ru} {mc : T_mc} {mq : T_mq} {mr' : T_mr} (t : ma_total ma' = mc_size mc)
    (hx : ma_ready ma' = 0 ∧ ma_allowed ma' = 0 ∧ ma_now ma' = 0 ∧ ma_scans ma' = 0 ∧ ma_faults ma' = 0 ∧ ru_steps ru' = 0 ∧ me_deepest me' = 0 ∧ ∀ j, j < 4096 → me_cells me' j = 0)
    (hm : mr_runs mr' = 0 ∧ mr_now mr' = 0 ∧ mr_scans mr' = 0 ∧ mr_faults mr' = 0 ∧ mr_lastSteps mr' = 0 ∧ mr_deepest mr' = 0 ∧ ∀ j, j < 4096 → mr_cells mr' j = 0) : RunRel Good ma' me' ru' mc mq mr' := by
  obtain ⟨a1, a2, a3, a4, a5, a6, a7, a8⟩ := hx
  obtain ⟨b1, b2, b3, b4, b5, b6, b7⟩ := hm
  exact ⟨t, by rw [a1, b1], by rw [a3, b2], by rw [a4, b3], by rw [a5, b4], by rw [a6, b5], by rw [a7, b6], fun j hj => by rw [a8 j hj, b7 j hj], by rw [b2]; decide, by rw [b2]; decide, Or.inl ⟨b1, a2, b2, b3, b4, b5, b6, b7⟩⟩

theorem begin_ok {Good : T_mc → T_mq → Prop} {n : Nat} (hn : 5000 ≤ n) {ma : T_ma} {ko : T_ko} {sh : T_sh} {lo : T_lo} {de : T_de} {wa : T_wa} {me : T_me} {ru : T_ru} {mc : T_mc} {mq : T_mq} {mr : T_mr} (h : RelG Good ma ko sh lo de wa me ru mc mq mr) (a : Int32) :
    ∃ (r : Int32) (ma' : T_ma) (ko' : T_ko) (me' : T_me) (ru' : T_ru) (mc' : T_mc) (mr' : T_mr), r_Sm_begin n ma ko me ru a = some (r, ma', ko', me', ru') ∧ r_Mo_begin n mc mr a = some (r, mc', mr') ∧ RelG Good ma' ko' sh lo de wa me' ru' mc' mq mr' := by
  unfold r_Sm_begin r_Mo_begin
  by_cases c1 : a < 1
  · rw [if_pos c1, if_pos c1]; exact ⟨_, _, _, _, _, _, _, rfl, rfl, h⟩
  by_cases c2 : a ≤ 4096
  · rw [if_neg c1, if_neg c1, if_pos c2, if_pos c2]
    obtain ⟨hc, hk, hr⟩ := h
    obtain ⟨ma', me', ru', e1, t1, t2⟩ := halt_ok n hr
    obtain ⟨mr', e2, s2⟩ := stop_ok hn mr
    rw [e1, e2]
    have ha : 1 ≤ a.toInt ∧ a.toInt ≤ 4096 := by
      rw [i_lt] at c1; rw [i_le] at c2
      have k1 : (1 : Int32).toInt = 1 := by decide
      have k2 : (4096 : Int32).toInt = 4096 := by decide
      omega
    have hf0 : mc_firsts mc 0 = 0 := by rw [hc.2.2.2.2.2.2.1 0 (Nat.zero_le _), hc.2.2.2.2.1]; rfl
    refine ⟨a, _, _, _, _, _, _, rfl, rfl, ?_, ?_, run0 rfl t2 s2⟩
    · refine ⟨rfl, (show (0 : Nat) ≤ 16 by decide), ?_, ?_, ?_, fun u hu => absurd hu (Nat.not_lt_zero u), fun u hu => ?_, fun u hu => absurd hu (Nat.not_lt_zero u), ha.1, ha.2⟩
      · show (0 : Int32) = nI (mc_firsts mc 0).toNatClampNeg; rw [hf0]; rfl
      · show (mc_firsts mc 0).toNatClampNeg ≤ 256; rw [hf0]; decide
      · exact hc.2.2.2.2.1
      · have : u = 0 := Nat.le_zero.mp hu
        subst this
        show mc_firsts mc 0 = nI (mc_firsts mc 0).toNatClampNeg; rw [hf0]; rfl
    · refine ⟨rfl, rfl, fun u hu => absurd hu (Nat.not_lt_zero u), fun j hj => ?_⟩
      have h0 : (mc_firsts mc 0).toNatClampNeg = 0 := hc.2.2.2.2.1
      exact absurd (show j < (mc_firsts mc 0).toNatClampNeg from hj) (by omega)
  · rw [if_neg c1, if_neg c1, if_neg c2, if_neg c2]; exact ⟨_, _, _, _, _, _, _, rfl, rfl, h⟩
theorem get_ok {Good : T_mc → T_mq → Prop} {n : Nat} {ma : T_ma} {ko : T_ko} {sh : T_sh} {lo : T_lo} {de : T_de} {wa : T_wa} {me : T_me} {ru : T_ru} {mc : T_mc} {mq : T_mq} {mr : T_mr} (h : RelG Good ma ko sh lo de wa me ru mc mq mr) (a : Int32) :
    ∃ (r : Int32), r_Sm_get n ma me a = some r ∧ r_Mo_get n mc mr a = some r ∧ RelG Good ma ko sh lo de wa me ru mc mq mr := by
  have hr := h.2.2
  have hc := h.1
  obtain ⟨h1, h2, h3, h4, h5, h6, h7, h8, -⟩ := hr
  unfold r_Sm_get r_Sm_mayTouch r_Mo_get
  rw [h2]
  by_cases c1 : mr_runs mr = 0
  · rw [if_pos c1, if_pos c1]; exact ⟨_, rfl, rfl, h⟩
  rw [if_neg c1, if_neg c1]
  by_cases c2 : a < 0
  · rw [if_pos c2, if_pos c2]; exact ⟨_, rfl, rfl, h⟩
  rw [if_neg c2, if_neg c2, h1]
  by_cases c3 : a < mc_size mc
  · have c4 : ¬ mc_size mc ≤ a := by rw [i_le]; rw [i_lt] at c3; omega
    rw [if_neg c4, if_pos c3]
    have z0 : (0 : Int32).toInt = 0 := by decide
    have hs := hc.2.2.2.2.2.2.2.2
    have a0 : 0 ≤ a.toInt ∧ a.toInt < 4096 := by rw [i_lt] at c2 c3; omega
    obtain ⟨k, hk, rfl⟩ : ∃ k : Nat, k < 4096 ∧ a = nI k := ⟨a.toInt.toNat, by omega, i_nat a0.1⟩
    have c5 : ¬ (4096 : Int32) ≤ nI k := by rw [i_le, nI_t (by omega)]; show ¬ (4096 : Int) ≤ _; omega
    refine ⟨mr_cells mr k, ?_, ?_, h⟩
    · show (if (1 : Int32) = 0 then some (-1) else (r_Me_cell n me (nI k)).bind fun q3 => some q3) = _
      rw [if_neg (by decide)]
      unfold r_Me_cell
      rw [if_neg c2, if_neg c5, gr_nI hk (by decide), h8 k hk]; rfl
    · rw [gr_nI hk (by decide)]
  · have c4 : mc_size mc ≤ a := by rw [i_le]; rw [i_lt] at c3; omega
    rw [if_pos c4, if_neg c3]; exact ⟨_, rfl, rfl, h⟩
theorem count_ok {Good : T_mc → T_mq → Prop} {n : Nat} {ma : T_ma} {ko : T_ko} {sh : T_sh} {lo : T_lo} {de : T_de} {wa : T_wa} {me : T_me} {ru : T_ru} {mc : T_mc} {mq : T_mq} {mr : T_mr} (h : RelG Good ma ko sh lo de wa me ru mc mq mr) (a : Int32) :
    ∃ (r : Int32), r_Sm_count n ma me ru a = some r ∧ r_Mo_count n mc mq mr a = some r ∧ RelG Good ma ko sh lo de wa me ru mc mq mr := by
  have hr := h.2.2
  have hc := h.1
  obtain ⟨h1, h2, h3, h4, h5, h6, h7, h8, h9, h10, h11⟩ := hr
  have key : (if mr_runs mr = 0 then some (0 : Int32) else gr (mq_steps mq) (mc_units mc - 1) 16 (fun v7 => some v7.toInt32)) = some (ma_allowed ma) := by
    rcases h11 with ⟨a, b, -⟩ | ⟨a, b, c, -⟩
    · rw [if_pos a, b]
    · rw [if_neg (by rw [a]; decide)]
      have e1 : mc_units mc - 1 = nI (nU mc - 1) := by rw [hc.1, show (1 : Int32) = nI 1 from rfl, pk_sub (by omega)]
      rw [e1, gr_nI (by have := hc.2.1; omega) (by decide), c]
  unfold r_Sm_count r_Mo_count
  rw [key, h3, h4, h5, h6, h7]
  by_cases c0 : a = 0
  · rw [if_pos c0]; exact ⟨_, rfl, rfl, h⟩
  rw [if_neg c0]
  by_cases c1 : a = 1
  · rw [if_pos c1]; exact ⟨_, rfl, rfl, h⟩
  rw [if_neg c1]
  by_cases c2 : a = 2
  · rw [if_pos c2]; exact ⟨_, rfl, rfl, h⟩
  rw [if_neg c2]
  by_cases c3 : a = 3
  · rw [if_pos c3]; exact ⟨_, rfl, rfl, h⟩
  rw [if_neg c3]
  by_cases c4 : a = 4
  · rw [if_pos c4]; exact ⟨_, rfl, rfl, h⟩
  rw [if_neg c4]
  by_cases c5 : a = 5
  · rw [if_pos c5]; exact ⟨_, rfl, rfl, h⟩
  rw [if_neg c5]
  exact ⟨_, rfl, rfl, h⟩
theorem set_ok {Good : T_mc → T_mq → Prop} {n : Nat} {ma : T_ma} {ko : T_ko} {sh : T_sh} {lo : T_lo} {de : T_de} {wa : T_wa} {me : T_me} {ru : T_ru} {mc : T_mc} {mq : T_mq} {mr : T_mr} (h : RelG Good ma ko sh lo de wa me ru mc mq mr) (a v : Int32) :
    ∃ (r : Int32) (me' : T_me) (mr' : T_mr), r_Sm_set n ma me a v = some (r, me') ∧ r_Mo_set n mc mr a v = some (r, mr') ∧ RelG Good ma ko sh lo de wa me' ru mc mq mr' := by
  have hr := h.2.2
  have hc := h.1
  obtain ⟨h1, h2, h3, h4, h5, h6, h7, h8, h9, h10, h11⟩ := hr
  unfold r_Sm_set r_Sm_mayTouch r_Mo_set
  rw [h2]
  by_cases c1 : mr_runs mr = 0
  · rw [if_pos c1, if_pos c1]; exact ⟨_, _, _, rfl, rfl, h⟩
  rw [if_neg c1, if_neg c1]
  by_cases c2 : a < 0
  · rw [if_pos c2, if_pos c2]; exact ⟨_, _, _, rfl, rfl, h⟩
  rw [if_neg c2, if_neg c2, h1]
  by_cases c3 : a < mc_size mc
  · have c4 : ¬ mc_size mc ≤ a := by rw [i_le]; rw [i_lt] at c3; omega
    rw [if_neg c4, if_pos c3]
    have z0 : (0 : Int32).toInt = 0 := by decide
    have hs := hc.2.2.2.2.2.2.2.2
    have a0 : 0 ≤ a.toInt ∧ a.toInt < 4096 := by rw [i_lt] at c2 c3; omega
    obtain ⟨k, hk, rfl⟩ : ∃ k : Nat, k < 4096 ∧ a = nI k := ⟨a.toInt.toNat, by omega, i_nat a0.1⟩
    have c5 : ¬ (4096 : Int32) ≤ nI k := by rw [i_le, nI_t (by omega)]; show ¬ (4096 : Int) ≤ _; omega
    rcases h11 with ⟨q, -⟩ | h11
    · exact absurd q c1
    refine ⟨mr_cells mr k, me_cells_s me (upd (me_cells me) k v), mr_cells_s mr (upd (mr_cells mr) k v), ?_, ?_, h.1, h.2.1, h1, h2, h3, h4, h5, h6, h7, fun j hj => ?_, h9, h10, Or.inr h11⟩
    · show (if (1 : Int32) = 0 then some (-1, me) else (r_Me_cell n me (nI k)).bind fun q3 => (r_Me_change n me (nI k) v).bind fun q4 => some (q3, q4)) = _
      rw [if_neg (by decide)]
      unfold r_Me_cell r_Me_change
      rw [if_neg c2, if_neg c5, if_neg c2, if_neg c5, gr_nI hk (by decide), ga_nI hk (by decide), h8 k hk, nI_clamp (by omega)]; rfl
    · rw [gr_nI hk (by decide), ga_nI hk (by decide), nI_clamp (by omega)]
    · show upd (me_cells me) k v j = upd (mr_cells mr) k v j
      unfold upd; rw [h8 j hj]
  · have c4 : mc_size mc ≤ a := by rw [i_le]; rw [i_lt] at c3; omega
    rw [if_pos c4, if_neg c3]; exact ⟨_, _, _, rfl, rfl, h⟩
