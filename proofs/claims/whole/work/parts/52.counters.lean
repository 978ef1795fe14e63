/-! counters, edges, latches -/
theorem bl_counter {n : Nat} {me : T_me} {mr : T_mr} {b : Nat} {now : Int32} (hb : b + 6 ≤ 4096) (hc : ∀ j, j < 4096 → me_cells me j = mr_cells mr j) (k : Int32) (hk : k = 3 ∨ k = 4) :
    ∃ g g', r_Bl_run n me k (nI b) now = some (me_cells_s me g) ∧ r_Mo_block n mr k (nI b) = some (mr_cells_s mr g') ∧ bE b 6 (mr_cells mr) g g' := by
  obtain ⟨e1, e2, e3, e4, e5⟩ := nk b
  have b0 := hc b (by omega)
  have b1 := hc (b + 1) (by omega)
  have b2 := hc (b + 2) (by omega)
  have b4 := hc (b + 4) (by omega)
  have b5 := hc (b + 5) (by omega)
  have G0 : ∀ (f : Nat → Int32) (q : Int32 → Option T_mr), gr f (nI b) 4096 q = q (f b) := fun f q => gr_nI (by omega) (by decide)
  have G1 : ∀ (f : Nat → Int32) (q : Int32 → Option T_mr), gr f (nI (b + 1)) 4096 q = q (f (b + 1)) := fun f q => gr_nI (by omega) (by decide)
  have G2 : ∀ (f : Nat → Int32) (q : Int32 → Option T_mr), gr f (nI (b + 2)) 4096 q = q (f (b + 2)) := fun f q => gr_nI (by omega) (by decide)
  have G4 : ∀ (f : Nat → Int32) (q : Int32 → Option T_mr), gr f (nI (b + 4)) 4096 q = q (f (b + 4)) := fun f q => gr_nI (by omega) (by decide)
  have G5 : ∀ (f : Nat → Int32) (q : Int32 → Option T_mr), gr f (nI (b + 5)) 4096 q = q (f (b + 5)) := fun f q => gr_nI (by omega) (by decide)
  have A3 : ∀ (q : Option T_mr), ga (nI (b + 3)) 4096 q = q := fun q => ga_nI (by omega) (by decide)
  have A4 : ∀ (q : Option T_mr), ga (nI (b + 4)) 4096 q = q := fun q => ga_nI (by omega) (by decide)
  have A5 : ∀ (q : Option T_mr), ga (nI (b + 5)) 4096 q = q := fun q => ga_nI (by omega) (by decide)
  have N3 : (nI (b + 3)).toNatClampNeg = b + 3 := nI_clamp (by omega)
  have N4 : (nI (b + 4)).toNatClampNeg = b + 4 := nI_clamp (by omega)
  have N5 : (nI (b + 5)).toNatClampNeg = b + 5 := nI_clamp (by omega)
  have M0 : ∀ x : T_me, r_Me_cell n x (nI b) = some (me_cells x b) := fun x => cell_nI (by omega)
  have M2 : ∀ x : T_me, r_Me_cell n x (nI (b + 2)) = some (me_cells x (b + 2)) := fun x => cell_nI (by omega)
  have M4 : ∀ x : T_me, r_Me_cell n x (nI (b + 4)) = some (me_cells x (b + 4)) := fun x => cell_nI (by omega)
  have S1 : ∀ x : T_me, r_Bl_isSet n x (nI (b + 1)) = some (if me_cells x (b + 1) = 0 then 0 else 1) := fun x => is_nI (by omega)
  have S5 : ∀ x : T_me, r_Bl_isSet n x (nI (b + 5)) = some (if me_cells x (b + 5) = 0 then 0 else 1) := fun x => is_nI (by omega)
  have C4 : ∀ (x : T_me) (v : Int32), r_Me_change n x (nI (b + 4)) v = some (me_cells_s x (upd (me_cells x) (b + 4) v)) := fun x v => chg_nI (by omega)
  have F3 : ∀ (x : T_me) (y : Int32), y = 0 ∨ y = 1 → r_Bl_putFlag n x (nI (b + 3)) y = some (me_cells_s x (upd (me_cells x) (b + 3) y)) := fun x y hy => by
    rcases hy with rfl | rfl
    · exact pf_0 (by omega)
    · exact pf_1 (by omega)
  have F5 : ∀ (x : T_me) (y : Int32), y = 0 ∨ y = 1 → r_Bl_putFlag n x (nI (b + 5)) y = some (me_cells_s x (upd (me_cells x) (b + 5) y)) := fun x y hy => by
    rcases hy with rfl | rfl
    · exact pf_0 (by omega)
    · exact pf_1 (by omega)
  have a0 : (0 : Int32) = 0 ∨ (0 : Int32) = 1 := Or.inl rfl
  have a1 : (1 : Int32) = 0 ∨ (1 : Int32) = 1 := Or.inr rfl
  have n10 : ¬ ((1 : Int32) = 0) := by decide
  have z0 : bE b 6 (mr_cells mr) (me_cells me) (mr_cells mr) := bE_0 hc
  -- what is left behind
  have lastW : ∀ v y x : Int32, bE b 6 (mr_cells mr) (upd (upd (upd (me_cells me) (b + 3) y) (b + 4) v) (b + 5) x) (upd (upd (upd (mr_cells mr) (b + 4) v) (b + 3) y) (b + 5) x) := fun v y x => by
    rw [upd_sw (f := mr_cells mr) (show b + 4 ≠ b + 3 by omega)]
    exact bE_u (by omega) (bE_u (by omega) (bE_u (by omega) z0))
  have up : ∀ v x : Int32, x = 0 ∨ x = 1 → ∃ g g', ((r_Bl_runCounter_j68 n me (nI b) (mr_cells mr (b + 2)) v).bind fun q3 => (r_Bl_putFlag n q3 (nI (b + 5)) x).bind fun q4 => some q4) = some (me_cells_s me g) ∧ r_Mo_counter_j116 n mr (nI b) x (nI (b + 4)) v = some (mr_cells_s mr g') ∧ bE b 6 (mr_cells mr) g g' := fun v x hx => by
    have pt : ∀ y : Int32, y = 0 ∨ y = 1 → ((r_Bl_runCounter_j86 n me (nI b) v (nI (b + 3)) y).bind fun q3 => (r_Bl_putFlag n q3 (nI (b + 5)) x).bind fun q4 => some q4) = some (me_cells_s me (upd (upd (upd (me_cells me) (b + 3) y) (b + 4) v) (b + 5) x)) := fun y hy => by
      unfold r_Bl_runCounter_j86 r_Bl_runCounter_j142
      rw [F3 _ _ hy, Option.bind_some, e4, C4, Option.bind_some, me_g, me_gg, Option.bind_some, F5 _ _ hx, Option.bind_some, me_g, me_gg]
    have mt : ∀ y : Int32, y = 0 ∨ y = 1 → r_Mo_counter_j148 n (mr_cells_s mr (upd (mr_cells mr) (b + 4) v)) (nI b) x (nI (b + 3)) y = some (mr_cells_s mr (upd (upd (upd (mr_cells mr) (b + 4) v) (b + 3) y) (b + 5) x)) := fun y hy => by
      unfold r_Mo_counter_j148 r_Mo_counter_j246
      rw [tr_id n hy, Option.bind_some, A3, N3, tr_id n hx, Option.bind_some, e5, A5, N5, mr_g, mr_gg, mr_g, mr_gg]
    unfold r_Bl_runCounter_j68 r_Mo_counter_j116
    rw [e2, e3, e4, A4, N4, G4, G2, mr_g, upd_at, upd_b (by decide), mt 0 a0, mt 1 a1]
    by_cases c : v < mr_cells mr (b + 2)
    · rw [if_pos c, if_pos c, pt 0 a0]; exact ⟨_, _, rfl, rfl, lastW _ _ _⟩
    · rw [if_neg c, if_neg c, pt 1 a1]; exact ⟨_, _, rfl, rfl, lastW _ _ _⟩
  have dn : ∀ v x : Int32, x = 0 ∨ x = 1 → ∃ g g', ((r_Bl_runCounter_j123 n me (nI b) v).bind fun q3 => (r_Bl_putFlag n q3 (nI (b + 5)) x).bind fun q4 => some q4) = some (me_cells_s me g) ∧ r_Mo_counter_j218 n mr (nI b) x (nI (b + 4)) v = some (mr_cells_s mr g') ∧ bE b 6 (mr_cells mr) g g' := fun v x hx => by
    have pt : ∀ y : Int32, y = 0 ∨ y = 1 → ((r_Bl_runCounter_j139 n me (nI b) v (nI (b + 3)) y).bind fun q3 => (r_Bl_putFlag n q3 (nI (b + 5)) x).bind fun q4 => some q4) = some (me_cells_s me (upd (upd (upd (me_cells me) (b + 3) y) (b + 4) v) (b + 5) x)) := fun y hy => by
      unfold r_Bl_runCounter_j139 r_Bl_runCounter_j142
      rw [F3 _ _ hy, Option.bind_some, e4, C4, Option.bind_some, me_g, me_gg, Option.bind_some, F5 _ _ hx, Option.bind_some, me_g, me_gg]
    have mt : ∀ y : Int32, y = 0 ∨ y = 1 → r_Mo_counter_j242 n (mr_cells_s mr (upd (mr_cells mr) (b + 4) v)) (nI b) x (nI (b + 3)) y = some (mr_cells_s mr (upd (upd (upd (mr_cells mr) (b + 4) v) (b + 3) y) (b + 5) x)) := fun y hy => by
      unfold r_Mo_counter_j242 r_Mo_counter_j246
      rw [tr_id n hy, Option.bind_some, A3, N3, tr_id n hx, Option.bind_some, e5, A5, N5, mr_g, mr_gg, mr_g, mr_gg]
    unfold r_Bl_runCounter_j123 r_Mo_counter_j218
    rw [e3, e4, A4, N4, G4, mr_g, upd_at, mt 0 a0, mt 1 a1]
    by_cases c : 0 < v
    · rw [if_pos c, if_pos c, pt 0 a0]; exact ⟨_, _, rfl, rfl, lastW _ _ _⟩
    · rw [if_neg c, if_neg c, pt 1 a1]; exact ⟨_, _, rfl, rfl, lastW _ _ _⟩
  -- from the rise on
  have body : ∀ x y : Int32, x = 0 ∨ x = 1 → y = 0 ∨ y = 1 → ∃ g g', r_Bl_run_j83 n me (nI b) x k (nI b) y = some (me_cells_s me g) ∧ r_Mo_counter_j35 n mr k (nI b) x y = some (mr_cells_s mr g') ∧ bE b 6 (mr_cells mr) g g' := fun x y hx hy => by
    unfold r_Bl_run_j83 r_Bl_runCounter r_Mo_counter_j35 r_Mo_counter_j53 r_Bl_runCounter_j66 r_Bl_runCounter_j121 r_Mo_counter_j108 r_Mo_counter_j210
    rw [e1, e2, e4, e5, S1, M2, M4, Option.bind_some, Option.bind_some, Option.bind_some, b1, b2, b4]
    simp only [G1, G2, G4]
    rcases hk with rfl | rfl
    · rw [if_pos rfl, if_pos rfl, if_pos rfl]
      by_cases c1 : mr_cells mr (b + 1) = 0
      · simp only [if_pos c1, if_true]
        by_cases cy : y = 0
        · rw [if_pos cy, if_pos cy]; exact up _ x hx
        · rw [if_neg cy, if_neg cy]
          by_cases cm : (32767 : Int32) ≤ mr_cells mr (b + 4)
          · rw [if_pos cm, if_pos cm]; exact up _ x hx
          · rw [if_neg cm, if_neg cm]; exact up _ x hx
      · simp only [if_neg c1, if_neg n10]; exact up _ x hx
    · have n43 : ¬ (4 : Int32) = 3 := by decide
      rw [if_neg n43, if_neg n43, if_neg n43]
      by_cases c1 : mr_cells mr (b + 1) = 0
      · simp only [if_pos c1, if_true]
        by_cases cy : y = 0
        · rw [if_pos cy, if_pos cy]; exact dn _ x hx
        · rw [if_neg cy, if_neg cy]
          by_cases cm : mr_cells mr (b + 4) ≤ (-32768 : Int32)
          · rw [if_pos cm, if_pos cm]; exact dn _ x hx
          · rw [if_neg cm, if_neg cm]; exact dn _ x hx
      · simp only [if_neg c1, if_neg n10]; exact dn _ x hx
  have kl : (2 : Int32) < k ∧ ¬ (4 : Int32) < k ∧ (3 : Int32) ≤ k ∧ ¬ (5 : Int32) ≤ k := by rcases hk with rfl | rfl <;> decide
  have fin : ∀ (X : Option T_me) (Y : Option T_mr), (∃ g g', X = some (me_cells_s me g) ∧ Y = some (mr_cells_s mr g') ∧ bE b 6 (mr_cells mr) g g') → ∃ g g', X = some (me_cells_s me g) ∧ (Y.bind fun q45 => some q45) = some (mr_cells_s mr g') ∧ bE b 6 (mr_cells mr) g g' := fun X Y h => by
    obtain ⟨g, g', p1, p2, p3⟩ := h; rw [p2]; exact ⟨g, g', p1, rfl, p3⟩
  unfold r_Bl_run r_Bl_run_j16 r_Mo_block r_Mo_block_j14 r_Mo_counter r_Mo_counter_j14 r_Mo_counter_j34 r_Bl_run_j82
  rw [M0, Option.bind_some, b0, G0]
  by_cases c0 : mr_cells mr b = 0
  · rw [if_pos c0, if_pos c0, if_pos kl.1, if_neg kl.2.1, if_pos kl.2.2.1, if_neg kl.2.2.2, if_pos rfl, G0, if_pos c0, if_pos rfl]
    exact fin _ _ (body 0 0 a0 a0)
  · rw [if_neg c0, if_neg c0, if_pos kl.1, if_neg kl.2.1, if_pos kl.2.2.1, if_neg kl.2.2.2, if_neg n10, G0, if_neg c0, if_neg n10, e5, S5, Option.bind_some, b5, G5]
    by_cases c5 : mr_cells mr (b + 5) = 0
    · rw [if_pos c5, if_pos rfl, if_pos c5]; exact fin _ _ (body 1 1 a1 a1)
    · rw [if_neg c5, if_neg n10, if_neg c5]; exact fin _ _ (body 1 0 a1 a0)
theorem bl_edge {n : Nat} {me : T_me} {mr : T_mr} {b : Nat} {now : Int32} (hb : b + 3 ≤ 4096) (hc : ∀ j, j < 4096 → me_cells me j = mr_cells mr j) (k : Int32) (hk : k = 5 ∨ k = 6) :
    ∃ g g', r_Bl_run n me k (nI b) now = some (me_cells_s me g) ∧ r_Mo_block n mr k (nI b) = some (mr_cells_s mr g') ∧ bE b 3 (mr_cells mr) g g' := by
  obtain ⟨e1, e2, -⟩ := nk b
  have b0 := hc b (by omega)
  have b2 := hc (b + 2) (by omega)
  have G0 : ∀ (f : Nat → Int32) (q : Int32 → Option T_mr), gr f (nI b) 4096 q = q (f b) := fun f q => gr_nI (by omega) (by decide)
  have G2 : ∀ (f : Nat → Int32) (q : Int32 → Option T_mr), gr f (nI (b + 2)) 4096 q = q (f (b + 2)) := fun f q => gr_nI (by omega) (by decide)
  have A1 : ∀ (q : Option T_mr), ga (nI (b + 1)) 4096 q = q := fun q => ga_nI (by omega) (by decide)
  have A2 : ∀ (q : Option T_mr), ga (nI (b + 2)) 4096 q = q := fun q => ga_nI (by omega) (by decide)
  have N1 : (nI (b + 1)).toNatClampNeg = b + 1 := nI_clamp (by omega)
  have N2 : (nI (b + 2)).toNatClampNeg = b + 2 := nI_clamp (by omega)
  have S2 : ∀ x : T_me, r_Bl_isSet n x (nI (b + 2)) = some (if me_cells x (b + 2) = 0 then 0 else 1) := fun x => is_nI (by omega)
  have F : ∀ (i : Nat) (x : T_me) (y : Int32), i < 3 → y = 0 ∨ y = 1 → r_Bl_putFlag n x (nI (b + i)) y = some (me_cells_s x (upd (me_cells x) (b + i) y)) := fun i x y hi hy => by
    rcases hy with rfl | rfl
    · exact pf_0 (by omega)
    · exact pf_1 (by omega)
  have a0 : (0 : Int32) = 0 ∨ (0 : Int32) = 1 := Or.inl rfl
  have a1 : (1 : Int32) = 0 ∨ (1 : Int32) = 1 := Or.inr rfl
  have n10 : ¬ ((1 : Int32) = 0) := by decide
  have z0 : bE b 3 (mr_cells mr) (me_cells me) (mr_cells mr) := bE_0 hc
  have wr : ∀ x y : Int32, x = 0 ∨ x = 1 → y = 0 ∨ y = 1 → ∃ g g', r_Bl_run_j155 n me (nI b) x (nI (b + 1)) y = some (me_cells_s me g) ∧ r_Mo_block_j110 n mr (nI b) x (nI (b + 1)) y = some (mr_cells_s mr g') ∧ bE b 3 (mr_cells mr) g g' := fun x y hx hy => by
    unfold r_Bl_run_j155 r_Mo_block_j110
    rw [F 1 _ _ (by omega) hy, Option.bind_some, e2, F 2 _ _ (by omega) hx, Option.bind_some, me_g, me_gg, tr_id n hy, Option.bind_some, A1, tr_id n hx, Option.bind_some, A2, N1, N2, mr_g, mr_gg]
    exact ⟨_, _, rfl, rfl, bE_u (by omega) (bE_u (by omega) z0)⟩
  have body : ∀ x y : Int32, x = 0 ∨ x = 1 → ∃ g g', (if k = 5 then if x = 0 then r_Bl_run_j136 n me (nI b) x (nI b + 1) else if y = 0 then r_Bl_run_j155 n me (nI b) x (nI b + 1) 1 else r_Bl_run_j136 n me (nI b) x (nI b + 1) else if x = 0 then if y = 0 then r_Bl_run_j154 n me (nI b) x (nI b + 1) else r_Bl_run_j155 n me (nI b) x (nI b + 1) 1 else r_Bl_run_j154 n me (nI b) x (nI b + 1)) = some (me_cells_s me g) ∧ r_Mo_block_j65 n mr k (nI b) x y = some (mr_cells_s mr g') ∧ bE b 3 (mr_cells mr) g g' := fun x y hx => by
    unfold r_Mo_block_j65 r_Bl_run_j136 r_Bl_run_j154 r_Mo_block_j92 r_Mo_block_j109
    rw [e1]
    by_cases c5 : k = 5
    · rw [if_pos c5, if_pos c5]
      by_cases cx : x = 0
      · rw [if_pos cx, if_pos cx]; exact wr x 0 hx a0
      · rw [if_neg cx, if_neg cx]
        by_cases cy : y = 0
        · rw [if_pos cy, if_pos cy]; exact wr x 1 hx a1
        · rw [if_neg cy, if_neg cy]; exact wr x 0 hx a0
    · rw [if_neg c5, if_neg c5]
      by_cases cx : x = 0
      · rw [if_pos cx, if_pos cx]
        by_cases cy : y = 0
        · rw [if_pos cy, if_pos cy]; exact wr x 0 hx a0
        · rw [if_neg cy, if_neg cy]; exact wr x 1 hx a1
      · rw [if_neg cx, if_neg cx]; exact wr x 0 hx a0
  have kl : (2 : Int32) < k ∧ (4 : Int32) < k ∧ ¬ (6 : Int32) < k ∧ (3 : Int32) ≤ k ∧ (5 : Int32) ≤ k ∧ ¬ (7 : Int32) ≤ k := by rcases hk with rfl | rfl <;> decide
  unfold r_Bl_run r_Bl_run_j16 r_Mo_block r_Mo_block_j14
  rw [cell_nI (by omega), Option.bind_some, b0, G0, if_pos kl.1, if_pos kl.2.1, if_neg kl.2.2.1, if_pos kl.1, if_pos kl.2.1, if_neg kl.2.2.1, if_pos kl.2.2.2.1, if_pos kl.2.2.2.2.1, if_neg kl.2.2.2.2.2, if_pos kl.2.2.2.1, if_pos kl.2.2.2.2.1, if_neg kl.2.2.2.2.2, e2, S2, Option.bind_some, b2, G2, G2]
  by_cases c0 : mr_cells mr b = 0
  · rw [if_pos c0, if_pos c0]
    by_cases c2 : mr_cells mr (b + 2) = 0
    · rw [if_pos c2, if_pos c2]; exact body 0 0 a0
    · rw [if_neg c2, if_neg c2]; exact body 0 1 a0
  · rw [if_neg c0, if_neg c0]
    by_cases c2 : mr_cells mr (b + 2) = 0
    · rw [if_pos c2, if_pos c2]; exact body 1 0 a1
    · rw [if_neg c2, if_neg c2]; exact body 1 1 a1
theorem bl_latch {n : Nat} {me : T_me} {mr : T_mr} {b : Nat} {now : Int32} (hb : b + 3 ≤ 4096) (hc : ∀ j, j < 4096 → me_cells me j = mr_cells mr j) (k : Int32) (hk : k = 7 ∨ k = 8) :
    ∃ g g', r_Bl_run n me k (nI b) now = some (me_cells_s me g) ∧ r_Mo_block n mr k (nI b) = some (mr_cells_s mr g') ∧ bE b 3 (mr_cells mr) g g' := by
  obtain ⟨e1, e2, -⟩ := nk b
  have b0 := hc b (by omega)
  have b1 := hc (b + 1) (by omega)
  have b2 := hc (b + 2) (by omega)
  have G0 : ∀ (f : Nat → Int32) (q : Int32 → Option T_mr), gr f (nI b) 4096 q = q (f b) := fun f q => gr_nI (by omega) (by decide)
  have G1 : ∀ (f : Nat → Int32) (q : Int32 → Option T_mr), gr f (nI (b + 1)) 4096 q = q (f (b + 1)) := fun f q => gr_nI (by omega) (by decide)
  have G2 : ∀ (f : Nat → Int32) (q : Int32 → Option T_mr), gr f (nI (b + 2)) 4096 q = q (f (b + 2)) := fun f q => gr_nI (by omega) (by decide)
  have A2 : ∀ (q : Option T_mr), ga (nI (b + 2)) 4096 q = q := fun q => ga_nI (by omega) (by decide)
  have N2 : (nI (b + 2)).toNatClampNeg = b + 2 := nI_clamp (by omega)
  have S1 : ∀ x : T_me, r_Bl_isSet n x (nI (b + 1)) = some (if me_cells x (b + 1) = 0 then 0 else 1) := fun x => is_nI (by omega)
  have S2 : ∀ x : T_me, r_Bl_isSet n x (nI (b + 2)) = some (if me_cells x (b + 2) = 0 then 0 else 1) := fun x => is_nI (by omega)
  have a0 : (0 : Int32) = 0 ∨ (0 : Int32) = 1 := Or.inl rfl
  have a1 : (1 : Int32) = 0 ∨ (1 : Int32) = 1 := Or.inr rfl
  have n10 : ¬ ((1 : Int32) = 0) := by decide
  have z0 : bE b 3 (mr_cells mr) (me_cells me) (mr_cells mr) := bE_0 hc
  have P0 : r_Bl_putFlag n me (nI (b + 2)) 0 = some (me_cells_s me (upd (me_cells me) (b + 2) 0)) := pf_0 (by omega)
  have P1 : r_Bl_putFlag n me (nI (b + 2)) 1 = some (me_cells_s me (upd (me_cells me) (b + 2) 1)) := pf_1 (by omega)
  have u : ∀ v : Int32, bE b 3 (mr_cells mr) (upd (me_cells me) (b + 2) v) (upd (mr_cells mr) (b + 2) v) := fun v => bE_u (by omega) z0
  have body : ∀ x q1 q2 : Int32, ∃ g g', (if k = 7 then if x = 0 then if q1 = 0 then if q2 = 0 then (r_Bl_putFlag n me (nI (b + 2)) 0).bind fun q16 => some q16 else (r_Bl_putFlag n me (nI (b + 2)) 1).bind fun q17 => some q17 else (r_Bl_putFlag n me (nI (b + 2)) 0).bind fun q14 => some q14 else (r_Bl_putFlag n me (nI (b + 2)) 1).bind fun q12 => some q12 else if q1 = 0 then if x = 0 then if q2 = 0 then (r_Bl_putFlag n me (nI (b + 2)) 0).bind fun q9 => some q9 else (r_Bl_putFlag n me (nI (b + 2)) 1).bind fun q10 => some q10 else (r_Bl_putFlag n me (nI (b + 2)) 1).bind fun q7 => some q7 else (r_Bl_putFlag n me (nI (b + 2)) 0).bind fun q5 => some q5) = some (me_cells_s me g) ∧ r_Mo_block_j163 n mr k (nI b) x q1 q2 = some (mr_cells_s mr g') ∧ bE b 3 (mr_cells mr) g g' := fun x q1 q2 => by
    unfold r_Mo_block_j163
    rw [P0, P1, Option.bind_some, Option.bind_some, e2, tr_id n a0, tr_id n a1, Option.bind_some, Option.bind_some, A2, A2, N2]
    by_cases c7 : k = 7
    · rw [if_pos c7, if_pos c7]
      by_cases cx : x = 0
      · rw [if_pos cx, if_pos cx]
        by_cases cy : q1 = 0
        · rw [if_pos cy, if_pos cy]
          by_cases cz : q2 = 0
          · rw [if_pos cz, if_pos cz]; exact ⟨_, _, rfl, rfl, u 0⟩
          · rw [if_neg cz, if_neg cz]; exact ⟨_, _, rfl, rfl, u 1⟩
        · rw [if_neg cy, if_neg cy]; exact ⟨_, _, rfl, rfl, u 0⟩
      · rw [if_neg cx, if_neg cx]; exact ⟨_, _, rfl, rfl, u 1⟩
    · rw [if_neg c7, if_neg c7]
      by_cases cy : q1 = 0
      · rw [if_pos cy, if_pos cy]
        by_cases cx : x = 0
        · rw [if_pos cx, if_pos cx]
          by_cases cz : q2 = 0
          · rw [if_pos cz, if_pos cz]; exact ⟨_, _, rfl, rfl, u 0⟩
          · rw [if_neg cz, if_neg cz]; exact ⟨_, _, rfl, rfl, u 1⟩
        · rw [if_neg cx, if_neg cx]; exact ⟨_, _, rfl, rfl, u 1⟩
      · rw [if_neg cy, if_neg cy]; exact ⟨_, _, rfl, rfl, u 0⟩
  have kl : (2 : Int32) < k ∧ (4 : Int32) < k ∧ (6 : Int32) < k ∧ (3 : Int32) ≤ k ∧ (5 : Int32) ≤ k ∧ (7 : Int32) ≤ k := by rcases hk with rfl | rfl <;> decide
  have fin : ∀ (X : Option T_me) (Y : Option T_mr), (∃ g g', X = some (me_cells_s me g) ∧ Y = some (mr_cells_s mr g') ∧ bE b 3 (mr_cells mr) g g') → ∃ g g', (X.bind fun q8 => some q8) = some (me_cells_s me g) ∧ Y = some (mr_cells_s mr g') ∧ bE b 3 (mr_cells mr) g g' := fun X Y h => by
    obtain ⟨g, g', p1, p2, p3⟩ := h; rw [p1]; exact ⟨g, g', rfl, p2, p3⟩
  have mid : ∀ x : Int32, ∃ g g', ((r_Bl_runLatch n me k (nI b) x).bind fun q8 => some q8) = some (me_cells_s me g) ∧ (if mr_cells mr (b + 1) = 0 then r_Mo_block_j145 n mr k (nI b) x 0 else r_Mo_block_j145 n mr k (nI b) x 1) = some (mr_cells_s mr g') ∧ bE b 3 (mr_cells mr) g g' := fun x => by
    refine fin _ _ ?_
    unfold r_Bl_runLatch r_Mo_block_j145
    rw [e1, e2, S1, S2, Option.bind_some, Option.bind_some, b1, b2, G2, G2]
    by_cases c1 : mr_cells mr (b + 1) = 0
    · rw [if_pos c1, if_pos c1]
      by_cases c2 : mr_cells mr (b + 2) = 0
      · rw [if_pos c2, if_pos c2]; exact body x 0 0
      · rw [if_neg c2, if_neg c2]; exact body x 0 1
    · rw [if_neg c1, if_neg c1]
      by_cases c2 : mr_cells mr (b + 2) = 0
      · rw [if_pos c2, if_pos c2]; exact body x 1 0
      · rw [if_neg c2, if_neg c2]; exact body x 1 1
  unfold r_Bl_run r_Bl_run_j16 r_Mo_block r_Mo_block_j14
  rw [cell_nI (by omega), Option.bind_some, b0, G0, if_pos kl.1, if_pos kl.2.1, if_pos kl.2.2.1, if_pos kl.1, if_pos kl.2.1, if_pos kl.2.2.1, if_pos kl.2.2.2.1, if_pos kl.2.2.2.2.1, if_pos kl.2.2.2.2.2, if_pos kl.2.2.2.1, if_pos kl.2.2.2.2.1, if_pos kl.2.2.2.2.2, e1, G1, G1]
  by_cases c0 : mr_cells mr b = 0
  · rw [if_pos c0, if_pos c0]; exact mid 0
  · rw [if_neg c0, if_neg c0]; exact mid 1
/-- cells of a block -/
def blC (k : Int) : Int := if k ≤ 4 then 6 else 3
theorem block_ok {n : Nat} {me : T_me} {mr : T_mr} {b : Nat} {now k : Int32} (hn : now = mr_now mr) (h0 : 0 ≤ k.toInt) (h8 : k.toInt ≤ 8) (hb : (b : Int) + blC k.toInt ≤ 4096) (hc : ∀ j, j < 4096 → me_cells me j = mr_cells mr j) :
    ∃ g g', r_Bl_run n me k (nI b) now = some (me_cells_s me g) ∧ r_Mo_block n mr k (nI b) = some (mr_cells_s mr g') ∧ (∀ j, j < 4096 → g j = g' j) ∧ ∀ j : Nat, ¬ (b ≤ j ∧ (j : Int) < b + blC k.toInt) → g' j = mr_cells mr j := by
  have e : ∀ m : Int32, k = m ↔ k.toInt = m.toInt := fun m => i_eq
  unfold blC at hb ⊢
  by_cases c2 : k.toInt ≤ 2
  · rw [if_pos (by omega)] at hb ⊢
    obtain ⟨g, g', p1, p2, p3, p4⟩ := bl_timer (n := n) (me := me) (b := b) hn (by omega) hc k (by rw [e, e, e, k0, k1, k2]; omega)
    exact ⟨g, g', p1, p2, p3, fun j hj => p4 j (by omega)⟩
  by_cases c4 : k.toInt ≤ 4
  · rw [if_pos c4] at hb ⊢
    obtain ⟨g, g', p1, p2, p3, p4⟩ := bl_counter (n := n) (me := me) (b := b) (now := now) (by omega) hc k (by rw [e, e, k3, k4]; omega)
    exact ⟨g, g', p1, p2, p3, fun j hj => p4 j (by omega)⟩
  rw [if_neg c4] at hb ⊢
  by_cases c6 : k.toInt ≤ 6
  · obtain ⟨g, g', p1, p2, p3, p4⟩ := bl_edge (n := n) (me := me) (b := b) (now := now) (by omega) hc k (by rw [e, e, k5, k6]; omega)
    exact ⟨g, g', p1, p2, p3, fun j hj => p4 j (by omega)⟩
  · obtain ⟨g, g', p1, p2, p3, p4⟩ := bl_latch (n := n) (me := me) (b := b) (now := now) (by omega) hc k (by rw [e, e, k7, k8]; omega)
    exact ⟨g, g', p1, p2, p3, fun j hj => p4 j (by omega)⟩
