/-! timers -/
theorem bl_timer {n : Nat} {me : T_me} {mr : T_mr} {b : Nat} {now : Int32} (hn : now = mr_now mr) (hb : b + 6 ≤ 4096) (hc : ∀ j, j < 4096 → me_cells me j = mr_cells mr j) (k : Int32) (hk : k = 0 ∨ k = 1 ∨ k = 2) :
    ∃ g g', r_Bl_run n me k (nI b) now = some (me_cells_s me g) ∧ r_Mo_block n mr k (nI b) = some (mr_cells_s mr g') ∧ bE b 6 (mr_cells mr) g g' := by
  obtain ⟨e1, e2, e3, e4, e5⟩ := nk b
  subst hn
  have b0 := hc b (by omega)
  have b1 := hc (b + 1) (by omega)
  have b2 := hc (b + 2) (by omega)
  have b3 := hc (b + 3) (by omega)
  have b4 := hc (b + 4) (by omega)
  have b5 := hc (b + 5) (by omega)
  have G0 : ∀ (f : Nat → Int32) (q : Int32 → Option T_mr), gr f (nI b) 4096 q = q (f b) := fun f q => gr_nI (by omega) (by decide)
  have G1 : ∀ (f : Nat → Int32) (q : Int32 → Option T_mr), gr f (nI (b + 1)) 4096 q = q (f (b + 1)) := fun f q => gr_nI (by omega) (by decide)
  have G2 : ∀ (f : Nat → Int32) (q : Int32 → Option T_mr), gr f (nI (b + 2)) 4096 q = q (f (b + 2)) := fun f q => gr_nI (by omega) (by decide)
  have G3 : ∀ (f : Nat → Int32) (q : Int32 → Option T_mr), gr f (nI (b + 3)) 4096 q = q (f (b + 3)) := fun f q => gr_nI (by omega) (by decide)
  have G4 : ∀ (f : Nat → Int32) (q : Int32 → Option T_mr), gr f (nI (b + 4)) 4096 q = q (f (b + 4)) := fun f q => gr_nI (by omega) (by decide)
  have G5 : ∀ (f : Nat → Int32) (q : Int32 → Option T_mr), gr f (nI (b + 5)) 4096 q = q (f (b + 5)) := fun f q => gr_nI (by omega) (by decide)
  have A2 : ∀ (q : Option T_mr), ga (nI (b + 2)) 4096 q = q := fun q => ga_nI (by omega) (by decide)
  have A3 : ∀ (q : Option T_mr), ga (nI (b + 3)) 4096 q = q := fun q => ga_nI (by omega) (by decide)
  have A4 : ∀ (q : Option T_mr), ga (nI (b + 4)) 4096 q = q := fun q => ga_nI (by omega) (by decide)
  have A5 : ∀ (q : Option T_mr), ga (nI (b + 5)) 4096 q = q := fun q => ga_nI (by omega) (by decide)
  have N2 : (nI (b + 2)).toNatClampNeg = b + 2 := nI_clamp (by omega)
  have N3 : (nI (b + 3)).toNatClampNeg = b + 3 := nI_clamp (by omega)
  have N4 : (nI (b + 4)).toNatClampNeg = b + 4 := nI_clamp (by omega)
  have N5 : (nI (b + 5)).toNatClampNeg = b + 5 := nI_clamp (by omega)
  have M0 : ∀ x : T_me, r_Me_cell n x (nI b) = some (me_cells x b) := fun x => cell_nI (by omega)
  have M1 : ∀ x : T_me, r_Me_cell n x (nI (b + 1)) = some (me_cells x (b + 1)) := fun x => cell_nI (by omega)
  have M3 : ∀ x : T_me, r_Me_cell n x (nI (b + 3)) = some (me_cells x (b + 3)) := fun x => cell_nI (by omega)
  have M5 : ∀ x : T_me, r_Me_cell n x (nI (b + 5)) = some (me_cells x (b + 5)) := fun x => cell_nI (by omega)
  have S2 : ∀ x : T_me, r_Bl_isSet n x (nI (b + 2)) = some (if me_cells x (b + 2) = 0 then 0 else 1) := fun x => is_nI (by omega)
  have S4 : ∀ x : T_me, r_Bl_isSet n x (nI (b + 4)) = some (if me_cells x (b + 4) = 0 then 0 else 1) := fun x => is_nI (by omega)
  have C2 : ∀ (x : T_me) (v : Int32), r_Me_change n x (nI (b + 2)) v = some (me_cells_s x (upd (me_cells x) (b + 2) v)) := fun x v => chg_nI (by omega)
  have C3 : ∀ (x : T_me) (v : Int32), r_Me_change n x (nI (b + 3)) v = some (me_cells_s x (upd (me_cells x) (b + 3) v)) := fun x v => chg_nI (by omega)
  have C5 : ∀ (x : T_me) (v : Int32), r_Me_change n x (nI (b + 5)) v = some (me_cells_s x (upd (me_cells x) (b + 5) v)) := fun x v => chg_nI (by omega)
  have F20 : ∀ x : T_me, r_Bl_putFlag n x (nI (b + 2)) 0 = some (me_cells_s x (upd (me_cells x) (b + 2) 0)) := fun x => pf_0 (by omega)
  have F21 : ∀ x : T_me, r_Bl_putFlag n x (nI (b + 2)) 1 = some (me_cells_s x (upd (me_cells x) (b + 2) 1)) := fun x => pf_1 (by omega)
  have F40 : ∀ x : T_me, r_Bl_putFlag n x (nI (b + 4)) 0 = some (me_cells_s x (upd (me_cells x) (b + 4) 0)) := fun x => pf_0 (by omega)
  have F41 : ∀ x : T_me, r_Bl_putFlag n x (nI (b + 4)) 1 = some (me_cells_s x (upd (me_cells x) (b + 4) 1)) := fun x => pf_1 (by omega)
  have GR : ∀ sp, r_Mo_grown n mr (nI b) sp = some (grw (mr_cells mr (b + 3)) (mr_now mr) (mr_cells mr (b + 5)) sp) := fun sp => grown_ok hb
  -- the end of a timer
  have j388 : ∀ (g g' : Nat → Int32) (x : Int32), x = 0 ∨ x = 1 → bE b 6 (mr_cells mr) g g' → ∃ h h', ((r_Bl_putFlag n (me_cells_s me g) (nI (b + 4)) x).bind fun q19 => (r_Me_change n q19 (nI (b + 5)) (mr_now mr)).bind fun q20 => some q20) = some (me_cells_s me h) ∧ r_Mo_timer_j388 n (mr_cells_s mr g') (nI b) x = some (mr_cells_s mr h') ∧ bE b 6 (mr_cells mr) h h' := fun g g' x hx hg => by
    unfold r_Mo_timer_j388
    rcases hx with rfl | rfl
    · simp only [e4, e5, F40, C5, fl0, A4, A5, N4, N5, Option.bind_some, me_g, me_gg, mr_g, mr_gg, mr_gn]
      exact ⟨_, _, rfl, rfl, bE_u (by omega) (bE_u (by omega) hg)⟩
    · simp only [e4, e5, F41, C5, fl1, A4, A5, N4, N5, Option.bind_some, me_g, me_gg, mr_g, mr_gg, mr_gn]
      exact ⟨_, _, rfl, rfl, bE_u (by omega) (bE_u (by omega) hg)⟩
  have j0 := fun (g : Nat → Int32) (g' : Nat → Int32) (hg : bE b 6 (mr_cells mr) g g') => j388 g g' 0 (Or.inl rfl) hg
  have j1 := fun (g : Nat → Int32) (g' : Nat → Int32) (hg : bE b 6 (mr_cells mr) g g') => j388 g g' 1 (Or.inr rfl) hg
  have z0 : bE b 6 (mr_cells mr) (me_cells me) (mr_cells mr) := bE_0 hc
  have em : me = me_cells_s me (me_cells me) := rfl
  have er : mr = mr_cells_s mr (mr_cells mr) := rfl
  have spE : ∀ (c x3 y0 : Int32), (if 0 ≤ c then r_Mo_timer_j56 n mr k (nI b) x3 y0 c else r_Mo_timer_j56 n mr k (nI b) x3 y0 0) = r_Mo_timer_j56 n mr k (nI b) x3 y0 (if c < 0 then 0 else c) := fun c x3 y0 => by
    by_cases z : c < 0
    · rw [if_pos z, if_neg (by rw [i_le, k0]; rw [i_lt, k0] at z; omega)]
    · rw [if_neg z, if_pos (by rw [i_le, k0]; rw [i_lt, k0] at z; omega)]
  have kl : ¬ (2 : Int32) < k ∧ ¬ (3 : Int32) ≤ k := by rcases hk with rfl | rfl | rfl <;> decide
  unfold r_Bl_run r_Bl_run_j16 r_Mo_block r_Mo_block_j14 r_Mo_timer r_Mo_timer_j14 r_Mo_timer_j31 r_Bl_runTimer
  simp only [e1, e2, e3, e4, e5, M0, M1, M3, M5, S4, G0, G1, G4, b0, b1, b3, b4, b5, Option.bind_some, if_neg kl.1, if_neg kl.2, spE]
  generalize hsp : (if mr_cells mr (b + 1) < 0 then (0 : Int32) else mr_cells mr (b + 1)) = sp
  have hsp0 : 0 ≤ sp.toInt := by
    rw [← hsp]; split
    · decide
    · rename_i z; rw [i_lt, k0] at z; omega
  rw [show (if ((mr_cells mr (b + 3)).toInt64 + (mr_now mr).toInt64) - (mr_cells mr (b + 5)).toInt64 < sp.toInt64 then ((mr_cells mr (b + 3)).toInt64 + (mr_now mr).toInt64) - (mr_cells mr (b + 5)).toInt64 else sp.toInt64).toInt32 = grw (mr_cells mr (b + 3)) (mr_now mr) (mr_cells mr (b + 5)) sp from rfl]
  generalize hgr : grw (mr_cells mr (b + 3)) (mr_now mr) (mr_cells mr (b + 5)) sp = gw
  have GR' : r_Mo_grown n mr (nI b) sp = some gw := by rw [GR, hgr]
  clear hgr hsp GR spE kl
  have J119 : ∀ (x : T_mr) (x3 y : Int32), y = 0 ∨ y = 1 → r_Mo_timer_j119 n x (nI b) x3 (nI (b + 2)) y = r_Mo_timer_j388 n (mr_cells_s x (upd (mr_cells x) (b + 2) y)) (nI b) x3 := fun x x3 y hy => by
    unfold r_Mo_timer_j119
    rw [tr_id n hy, Option.bind_some, A2, N2]
  have J187 : ∀ (x : T_mr) (x3 y : Int32), y = 0 ∨ y = 1 → r_Mo_timer_j187 n x (nI b) x3 (nI (b + 2)) y = r_Mo_timer_j388 n (mr_cells_s x (upd (mr_cells x) (b + 2) y)) (nI b) x3 := fun x x3 y hy => by
    unfold r_Mo_timer_j187
    rw [tr_id n hy, Option.bind_some, A2, N2]
  have J245 : ∀ (x : T_mr) (x3 y : Int32), y = 0 ∨ y = 1 → r_Mo_timer_j245 n x (nI b) x3 (nI (b + 2)) y = r_Mo_timer_j388 n (mr_cells_s x (upd (mr_cells x) (b + 2) y)) (nI b) x3 := fun x x3 y hy => by
    unfold r_Mo_timer_j245
    rw [tr_id n hy, Option.bind_some, A2, N2]
  have J357 : ∀ (x : T_mr) (x3 y : Int32), y = 0 ∨ y = 1 → r_Mo_timer_j357 n x (nI b) x3 (nI (b + 2)) y = r_Mo_timer_j388 n (mr_cells_s x (upd (mr_cells x) (b + 2) y)) (nI b) x3 := fun x x3 y hy => by
    unfold r_Mo_timer_j357
    rw [tr_id n hy, Option.bind_some, A2, N2]
  have a0 : (0 : Int32) = 0 ∨ (0 : Int32) = 1 := Or.inl rfl
  have a1 : (1 : Int32) = 0 ∨ (1 : Int32) = 1 := Or.inr rfl
  have n10 : ¬ ((1 : Int32) = 0) := by decide
  have n20 : ¬ ((2 : Int32) = 0) := by decide
  have n21 : ¬ ((2 : Int32) = 1) := by decide
  -- what a timer does: the class's end behind the reference's
  have fin : ∀ (X : Option T_me) (Y : Option T_mr) (g g' : Nat → Int32) (x : Int32), X = some (me_cells_s me g) → Y = r_Mo_timer_j388 n (mr_cells_s mr g') (nI b) x → x = 0 ∨ x = 1 → bE b 6 (mr_cells mr) g g' →
      ∃ h h', (X.bind fun q18 => (r_Bl_putFlag n q18 (nI (b + 4)) x).bind fun q19 => (r_Me_change n q19 (nI (b + 5)) (mr_now mr)).bind fun q20 => some q20) = some (me_cells_s me h) ∧ (Y.bind fun q46 => some q46) = some (mr_cells_s mr h') ∧ bE b 6 (mr_cells mr) h h' := fun X Y g g' x hX hY hx hg => by
    obtain ⟨h, h', p1, p2, p3⟩ := j388 g g' x hx hg
    rw [hX, hY, Option.bind_some, p1, p2, Option.bind_some]
    exact ⟨h, h', rfl, rfl, p3⟩
  have key : ∀ (x q8 : Int32), x = 0 ∨ x = 1 → q8 = (if mr_cells mr (b + 4) = 0 then 0 else 1) → ∃ g g', (if k = 0 then if x = 0 then r_Bl_runTimer_j83 n me (nI b) x sp else if q8 = 0 then r_Bl_runTimer_j83 n me (nI b) x sp else r_Bl_runTimer_j84 n me (nI b) x sp gw else if k = 1 then (r_Bl_runOffDelay n me (nI b) x q8 sp gw).bind fun q14 => some q14 else (r_Bl_runPulse n me (nI b) x q8 sp gw).bind fun q13 => some q13) = some (me_cells_s me g) ∧ r_Mo_timer_j56 n mr k (nI b) x q8 sp = r_Mo_timer_j388 n (mr_cells_s mr g') (nI b) x ∧ bE b 6 (mr_cells mr) g g' := fun x q8 hx hq => by
    unfold r_Mo_timer_j56
    rcases hk with rfl | rfl | rfl
    · rw [if_pos rfl, if_pos rfl]
      -- the delay: its time, then its flag
      have j89 : ∀ v : Int32, ∃ g g', r_Bl_runTimer_j84 n me (nI b) x sp v = some (me_cells_s me g) ∧ r_Mo_timer_j89 n mr (nI b) x sp (nI (b + 3)) v = r_Mo_timer_j388 n (mr_cells_s mr g') (nI b) x ∧ bE b 6 (mr_cells mr) g g' := fun v => by
        unfold r_Bl_runTimer_j84 r_Mo_timer_j89 r_Mo_timer_j118
        rw [e2, e3, A3, N3, C3, Option.bind_some, G3, mr_g, upd_at, F20, F21, J119 _ _ _ a0, J119 _ _ _ a1]
        have u0 : bE b 6 (mr_cells mr) (upd (upd (me_cells me) (b + 3) v) (b + 2) 0) (upd (upd (mr_cells mr) (b + 3) v) (b + 2) 0) := bE_u (by omega) (bE_u (by omega) z0)
        have u1 : bE b 6 (mr_cells mr) (upd (upd (me_cells me) (b + 3) v) (b + 2) 1) (upd (upd (mr_cells mr) (b + 3) v) (b + 2) 1) := bE_u (by omega) (bE_u (by omega) z0)
        by_cases cx : x = 0
        · rw [if_pos cx, if_pos cx]; exact ⟨_, _, rfl, rfl, u0⟩
        · rw [if_neg cx, if_neg cx]
          by_cases cv : v < sp
          · rw [if_pos cv, if_pos cv]; exact ⟨_, _, rfl, rfl, u0⟩
          · rw [if_neg cv, if_neg cv]; exact ⟨_, _, rfl, rfl, u1⟩
      unfold r_Bl_runTimer_j83 r_Mo_timer_j88
      rw [e3]
      by_cases cx : x = 0
      · rw [if_pos cx, if_pos cx]; exact j89 0
      · rw [if_neg cx, if_neg cx]
        by_cases c8 : q8 = 0
        · rw [if_pos c8, if_pos c8]; exact j89 0
        · rw [if_neg c8, if_neg c8, GR', Option.bind_some]; exact j89 gw
    · rw [if_neg n10, if_pos rfl, if_neg n10, if_pos rfl]
      unfold r_Bl_runOffDelay r_Bl_runOffDelay_j8
      rw [e2, e3]
      by_cases cx : x = 0
      · rw [if_pos cx, if_pos cx]
        by_cases c8 : q8 = 0
        · rw [if_pos c8, if_pos c8, S2, Option.bind_some, G2, b2]
          by_cases c2 : mr_cells mr (b + 2) = 0
          · rw [if_pos c2, if_pos rfl, if_pos c2]; exact ⟨_, _, rfl, rfl, z0⟩
          · rw [if_neg c2, if_neg n10, if_neg c2, GR', Option.bind_some, A3, N3, G3, mr_g, upd_at, C3, Option.bind_some, F20, F21, J245 _ _ _ a0, J245 _ _ _ a1]
            by_cases cv : sp ≤ gw
            · rw [if_pos cv, if_pos cv]; exact ⟨_, _, rfl, rfl, bE_u (by omega) (bE_u (by omega) z0)⟩
            · rw [if_neg cv, if_neg cv]; exact ⟨_, _, rfl, rfl, bE_u (by omega) (bE_u (by omega) z0)⟩
        · rw [if_neg c8, if_neg c8, A3, N3, C3, Option.bind_some, F20, F21, if_pos cx, J187 _ _ _ a0, J187 _ _ _ a1]
          by_cases cv : sp ≤ 0
          · rw [if_pos cv, if_pos cv]; exact ⟨_, _, rfl, rfl, bE_u (by omega) (bE_u (by omega) z0)⟩
          · rw [if_neg cv, if_neg cv]; exact ⟨_, _, rfl, rfl, bE_u (by omega) (bE_u (by omega) z0)⟩
      · rw [if_neg cx, if_neg cx, A2, A3, N2, N3, C3, Option.bind_some, F21, if_neg cx, mr_g, mr_gg, upd_sw (show b + 2 ≠ b + 3 by omega)]
        exact ⟨_, _, rfl, rfl, bE_u (by omega) (bE_u (by omega) z0)⟩
    · rw [if_neg n20, if_neg n21, if_neg n20, if_neg n21]
      -- the pulse's second half
      have j311 : ∀ (g g' : Nat → Int32), bE b 6 (mr_cells mr) g g' → ∃ h h', r_Bl_runPulse_j40 n (me_cells_s me g) (nI b) x q8 sp = some (me_cells_s me h) ∧ r_Mo_timer_j311 n (mr_cells_s mr g') (nI b) x q8 sp = r_Mo_timer_j388 n (mr_cells_s mr h') (nI b) x ∧ bE b 6 (mr_cells mr) h h' := fun g g' hg => by
        have g2 := hg.1 (b + 2) (by omega)
        have j364 : g' (b + 2) = 0 → ∃ h h', r_Bl_runPulse_j90 n (me_cells_s me g) (nI b) x = some (me_cells_s me h) ∧ r_Mo_timer_j364 n (mr_cells_s mr g') (nI b) x = r_Mo_timer_j388 n (mr_cells_s mr h') (nI b) x ∧ bE b 6 (mr_cells mr) h h' := fun z => by
          unfold r_Bl_runPulse_j90 r_Mo_timer_j364
          rw [e2, e3, G2, mr_g, if_pos z, A3, N3, C3, Option.bind_some, me_g, me_gg, mr_gg]
          by_cases cx : x = 0
          · rw [if_pos cx, if_pos cx]; exact ⟨_, _, rfl, rfl, bE_u (by omega) hg⟩
          · rw [if_neg cx, if_neg cx]; exact ⟨_, _, rfl, rfl, hg⟩
        unfold r_Bl_runPulse_j40 r_Mo_timer_j311
        rw [e2, e3, S2, Option.bind_some, me_g, g2, G2, mr_g]
        by_cases z : g' (b + 2) = 0
        · rw [if_pos z, if_pos rfl, if_pos z]
          by_cases cx : x = 0
          · rw [if_pos cx, if_pos cx]; exact j364 z
          · rw [if_neg cx, if_neg cx]
            by_cases c8 : q8 = 0
            · rw [if_pos c8, if_pos c8, A3, N3, C3, Option.bind_some, F20, F21, J357 _ _ _ a0, J357 _ _ _ a1, mr_gg, mr_g, mr_gg]
              by_cases cv : sp ≤ 0
              · rw [if_pos cv, if_pos cv]; exact ⟨_, _, rfl, rfl, bE_u (by omega) (bE_u (by omega) hg)⟩
              · rw [if_neg cv, if_neg cv]; exact ⟨_, _, rfl, rfl, bE_u (by omega) (bE_u (by omega) hg)⟩
            · rw [if_neg c8, if_neg c8]; exact j364 z
        · rw [if_neg z, if_neg n10, if_neg z]
          unfold r_Mo_timer_j364
          rw [e2, G2, mr_g, if_neg z]
          exact ⟨_, _, rfl, rfl, hg⟩
      have fin2 : ∀ (X : Option T_me) (Y : Option T_mr), (∃ g g', X = some (me_cells_s me g) ∧ Y = r_Mo_timer_j388 n (mr_cells_s mr g') (nI b) x ∧ bE b 6 (mr_cells mr) g g') → ∃ g g', (X.bind fun q13 => some q13) = some (me_cells_s me g) ∧ Y = r_Mo_timer_j388 n (mr_cells_s mr g') (nI b) x ∧ bE b 6 (mr_cells mr) g g' := fun X Y h => by
        obtain ⟨g, g', p1, p2, p3⟩ := h; rw [p1]; exact ⟨g, g', rfl, p2, p3⟩
      refine fin2 _ _ ?_
      unfold r_Bl_runPulse
      rw [e2, e3, S2, Option.bind_some, b2, G2]
      by_cases c2 : mr_cells mr (b + 2) = 0
      · rw [if_pos c2, if_pos rfl, if_pos c2]; exact j311 (me_cells me) (mr_cells mr) z0
      · have z3 : bE b 6 (mr_cells mr) (upd (me_cells me) (b + 3) gw) (upd (mr_cells mr) (b + 3) gw) := bE_u (by omega) z0
        have er2 : upd (upd (mr_cells mr) (b + 3) gw) (b + 2) (upd (mr_cells mr) (b + 3) gw (b + 2)) = upd (mr_cells mr) (b + 3) gw := upd_id rfl
        unfold r_Mo_timer_j310
        rw [if_neg c2, if_neg n10, if_neg c2, GR', Option.bind_some, A3, N3, G3, mr_g, upd_at, G2, A2, A2, N2, C3, Option.bind_some, C2, Option.bind_some, me_g, me_gg, mr_gg, mr_gg, er2]
        by_cases cv : gw < sp
        · rw [if_pos cv, if_pos cv]; exact j311 _ _ z3
        · rw [if_neg cv, if_neg cv]; exact j311 _ _ (bE_u (by omega) z3)
  by_cases c0 : mr_cells mr b = 0
  · by_cases c4 : mr_cells mr (b + 4) = 0
    · obtain ⟨g, g', k1, k2, k3⟩ := key 0 0 a0 (if_pos c4).symm
      simp only [if_pos c0, if_pos c4, if_true] at k1 ⊢
      exact fin _ _ g g' 0 k1 k2 a0 k3
    · obtain ⟨g, g', k1, k2, k3⟩ := key 0 1 a0 (if_neg c4).symm
      simp only [if_pos c0, if_neg c4, if_true, n10, if_false] at k1 ⊢
      exact fin _ _ g g' 0 k1 k2 a0 k3
  · by_cases c4 : mr_cells mr (b + 4) = 0
    · obtain ⟨g, g', k1, k2, k3⟩ := key 1 0 a1 (if_pos c4).symm
      simp only [if_neg c0, if_pos c4, if_true, n10, if_false] at k1 ⊢
      exact fin _ _ g g' 1 k1 k2 a1 k3
    · obtain ⟨g, g', k1, k2, k3⟩ := key 1 1 a1 (if_neg c4).symm
      simp only [if_neg c0, if_neg c4, if_true, n10, if_false] at k1 ⊢
      exact fin _ _ g g' 1 k1 k2 a1 k3
