/-! the JDK's two fills, by hand -/

theorem list_set_same {α : Type} {l : List α} {k : Nat} {x : α} (h : l[k]? = some x) : l.set k x = l := by
  apply List.ext_getElem?
  intro j
  by_cases hj : j = k
  · subst hj; rw [List.getElem?_set_self (List.getElem?_eq_some_iff.mp h).1, h]
  · rw [List.getElem?_set_ne (fun z => hj z.symm)]
theorem k_dset {A : Nat → Prop} {ws : va_W} {q0 a : Nat} {x y : va_E} (h : va_D A (ws.set q0 (a, x))) : va_D A (ws.set q0 (a, y)) := by
  have key : ∀ (k : Nat) (q : Nat × va_E), (ws.set q0 (a, y))[k]? = some q → ∃ e, (ws.set q0 (a, x))[k]? = some (q.1, e) := by
    intro k q hq
    by_cases hk : k = q0
    · subst hk
      have hl : k < ws.length := by
        have := (List.getElem?_eq_some_iff.mp hq).1
        simpa using this
      rw [List.getElem?_set_self hl] at hq ⊢
      cases hq; exact ⟨x, rfl⟩
    · rw [List.getElem?_set_ne (fun z => hk z.symm)] at hq ⊢
      exact ⟨q.2, hq⟩
  refine ⟨fun i j p q hp hq e => ?_, fun k q hq => ?_⟩
  · obtain ⟨e1, h1⟩ := key i p hp
    obtain ⟨e2, h2⟩ := key j q hq
    exact h.1 i j _ _ h1 h2 e
  · obtain ⟨e1, h1⟩ := key k q hq
    exact h.2 k (q.1, e1) h1
theorem fill_eq {cA : ClassId} {N : Nat} {F G : Nat → Value} (h : ∀ j, j < N → F j = G j) : arrV cA N F = arrV cA N G := by
  have e : (fun i : Fin N => F i.val) = fun i : Fin N => G i.val := funext fun i => h i.val i.isLt
  first | (unfold arrV; simp only [e]; done) | (unfold arrV; congr 1; apply Array.ext' ; simp; intro a ha; exact h a ha) | (unfold arrV; congr 1; apply Array.ext; · simp; · intro i h1 h2; simp; exact h i (by simpa using h1))
theorem d_Ar_fillI_0 : decode b_Ar_fillI 0 = .ok (.iconst 0, 1) := by decide +kernel
theorem d_Ar_fillI_1 : decode b_Ar_fillI 1 = .ok (.istore_n 2, 1) := by decide +kernel
theorem d_Ar_fillI_2 : decode b_Ar_fillI 2 = .ok (.aload_n 0, 1) := by decide +kernel
theorem d_Ar_fillI_3 : decode b_Ar_fillI 3 = .ok (.arraylength, 1) := by decide +kernel
theorem d_Ar_fillI_4 : decode b_Ar_fillI 4 = .ok (.istore_n 3, 1) := by decide +kernel
theorem d_Ar_fillI_5 : decode b_Ar_fillI 5 = .ok (.iload_n 2, 1) := by decide +kernel
theorem d_Ar_fillI_6 : decode b_Ar_fillI 6 = .ok (.iload_n 3, 1) := by decide +kernel
theorem d_Ar_fillI_7 : decode b_Ar_fillI 7 = .ok (.if_icmp .ge 13, 3) := by decide +kernel
theorem d_Ar_fillI_10 : decode b_Ar_fillI 10 = .ok (.aload_n 0, 1) := by decide +kernel
theorem d_Ar_fillI_11 : decode b_Ar_fillI 11 = .ok (.iload_n 2, 1) := by decide +kernel
theorem d_Ar_fillI_12 : decode b_Ar_fillI 12 = .ok (.iload_n 1, 1) := by decide +kernel
theorem d_Ar_fillI_13 : decode b_Ar_fillI 13 = .ok (.iastore, 1) := by decide +kernel
theorem d_Ar_fillI_14 : decode b_Ar_fillI 14 = .ok (.iinc 2 1, 3) := by decide +kernel
theorem d_Ar_fillI_17 : decode b_Ar_fillI 17 = .ok (.goto (-12), 3) := by decide +kernel
theorem d_Ar_fillI_20 : decode b_Ar_fillI 20 = .ok (.return_, 1) := by decide +kernel
def rm_Ar_fillI : Jvm.Room := { frames := 0, cells := 0, slots := 0, locals := 0 }
set_option maxHeartbeats 4000000 in
set_option maxRecDepth 100000 in
theorem c_Ar_fillI {l : Launch} {D : va_G} {cl : List vw_C} {tys : List (ClassId × FieldType)} {ws0 : va_W} {sz a q0 N t0 : Nat} {cA : ClassId} {f : Nat → Int32} {v : Int32} (hw : ws0[q0]? = some (a, .inl (cA, N, .inl f))) (ht : tys[t0]? = some (cA, .int)) (hN : N < 2 ^ 31 := by decide) : Met l y_Ar_fillI (Cond.code y_Ar_fillI b_Ar_fillI 4 none :: TB) rm_Ar_fillI (PreW D cl tys ws0 [.ref a, .int v] sz) (PstV D cl tys ws0 (ws0.set q0 (a, .inl (cA, N, .inl (fun _ => v)))) sz) 0 0 (va_A ws0 sz) := by
  refine k_met (by decide) (Nat.le_of_ble_eq_true rfl) ?_
  intro p e s m below meth c ls hx hb hr hml hts hown hlk hnm hsz hP hK hD hA hz hl
  have hS : va_S (va_A ws0 sz) s.heap s.heap [] := va_S.rf
  have hl : lv_has ls 4 [(0, .ref a), (1, .int v)] := hl
  have hq : q0 < ws0.length := (List.getElem?_eq_some_iff.mp hw).1
  generalize hQ : MQ below (PstV D cl tys ws0 (ws0.set q0 (a, .inl (cA, N, .inl (fun _ => v)))) sz) [.ref a, .int v].toArray s 0 0 (va_A ws0 sz) = Q
  have loop : ∀ (k i : Nat), N - i ≤ k → i ≤ N → ∀ (g : Nat → Int32), (∀ j, j < i → g j = v) → ∀ (H : Heap) (locs : List Loc) (ls : Array Slot), va_P D cl (ws0.set q0 (a, .inl (cA, N, .inl (g)))) H → va_D (va_A ws0 sz) (ws0.set q0 (a, .inl (cA, N, .inl (g)))) → va_S (va_A ws0 sz) s.heap H locs → lv_has ls 4 [(0, .ref a), (1, .int v), (2, .int (nI i)), (3, .int (nI N))] → W p l e rm_Ar_fillI s m [.ref a, .int v].toArray below meth c H locs 0 0 Q (F0 m 5 ls []) := by
    intro k
    induction k with
    | zero =>
      intro i hk hi g hg H locs ls hP hD hS hl
      refine lv_iload_n hx hb d_Ar_fillI_5 rfl (lv_at hl 2 rfl) ?_
      refine lv_iload_n hx hb d_Ar_fillI_6 rfl (lv_at hl 3 rfl) ?_
      refine lv_icmp_ge (tgt := 20) hx hb d_Ar_fillI_7 (by decide) (fun c1 => ?_) (fun c1 => ?_)
      · have hge : N ≤ i := by
          rcases Nat.lt_or_ge i N with q | q
          · exact absurd c1 (nI_ge q hN)
          · exact q
        subst hQ
        have e1 : va_P D cl (ws0.set q0 (a, .inl (cA, N, .inl (fun _ => v)))) H := by
          have hx1 := hP q0 _ (List.getElem?_set_self hq)
          intro kk qq hk2
          by_cases hkq : kk = q0
          · subst hkq
            rw [List.getElem?_set_self hq] at hk2
            cases hk2
            have h9 : H[a]? = some (vp_cell cA (N, .inl (g))) := hx1
            show H[a]? = some (vp_cell cA (N, .inl (fun _ => v)))
            rw [h9]
            congr 1
            rw [vp_cell_i, vp_cell_i]
            exact fill_eq (fun j hj => by rw [hg j (by omega)])
          · exact hP kk qq (by rw [List.getElem?_set_ne (fun z => hkq z.symm)] at hk2 ⊢; exact hk2)
        have e2 : va_D (va_A ws0 sz) (ws0.set q0 (a, .inl (cA, N, .inl (fun _ => v)))) := k_dset hD
        exact k_vret hx hb hr hlk e1 hK e2 hS d_Ar_fillI_20
      · exact absurd (nI_le (by omega : N ≤ i) (by omega)) c1
    | succ k ih =>
      intro i hk hi g hg H locs ls hP hD hS hl
      refine lv_iload_n hx hb d_Ar_fillI_5 rfl (lv_at hl 2 rfl) ?_
      refine lv_iload_n hx hb d_Ar_fillI_6 rfl (lv_at hl 3 rfl) ?_
      refine lv_icmp_ge (tgt := 20) hx hb d_Ar_fillI_7 (by decide) (fun c1 => ?_) (fun c1 => ?_)
      · have hge : N ≤ i := by
          rcases Nat.lt_or_ge i N with q | q
          · exact absurd c1 (nI_ge q hN)
          · exact q
        subst hQ
        have e1 : va_P D cl (ws0.set q0 (a, .inl (cA, N, .inl (fun _ => v)))) H := by
          have hx1 := hP q0 _ (List.getElem?_set_self hq)
          intro kk qq hk2
          by_cases hkq : kk = q0
          · subst hkq
            rw [List.getElem?_set_self hq] at hk2
            cases hk2
            have h9 : H[a]? = some (vp_cell cA (N, .inl (g))) := hx1
            show H[a]? = some (vp_cell cA (N, .inl (fun _ => v)))
            rw [h9]
            congr 1
            rw [vp_cell_i, vp_cell_i]
            exact fill_eq (fun j hj => by rw [hg j (by omega)])
          · exact hP kk qq (by rw [List.getElem?_set_ne (fun z => hkq z.symm)] at hk2 ⊢; exact hk2)
        have e2 : va_D (va_A ws0 sz) (ws0.set q0 (a, .inl (cA, N, .inl (fun _ => v)))) := k_dset hD
        exact k_vret hx hb hr hlk e1 hK e2 hS d_Ar_fillI_20
      · have hlt : i < N := by
          rcases Nat.lt_or_ge i N with q | q
          · exact q
          · exact absurd (nI_le q (by omega)) c1
        refine lv_aload_n hx hb d_Ar_fillI_10 rfl (lv_at hl 0 rfl) ?_
        refine lv_iload_n hx hb d_Ar_fillI_11 rfl (lv_at hl 2 rfl) ?_
        refine lv_iload_n hx hb d_Ar_fillI_12 rfl (lv_at hl 1 rfl) ?_
        refine va_iast hx hb hK hP hD hS q0 t0 (List.getElem?_set_self hq) ht (vp_in_nI hlt hN) d_Ar_fillI_13 (fun H locs hP hD hS => ?_)
        rw [List.set_set, nI_clamp (by omega)] at hP hD
        refine lv_iinc (v := nI (i + 1)) (lv' := [(2, .int (nI (i + 1))), (0, .ref a), (1, .int v), (3, .int (nI N))]) hx hb d_Ar_fillI_14 hl (k := 2) rfl (nI_succ i).symm (by decide) rfl (fun ls hl => ?_)
        refine lv_goto (tgt := 5) hx hb d_Ar_fillI_17 (by decide) ?_
        refine ih (i + 1) (by omega) hlt _ (fun j hj => ?_) H locs ls hP hD hS (lv_sub hl [1, 2, 0, 3] rfl)
        by_cases hj2 : j = i
        · subst hj2; exact if_pos rfl
        · exact (if_neg hj2).trans (hg j (by omega))
  refine lv_iconst (v := 0) hx hb d_Ar_fillI_0 (by decide) ?_
  refine lv_istore_n (lv' := [(2, .int 0), (0, .ref a), (1, .int v)]) hx hb d_Ar_fillI_1 rfl hl (by decide) rfl (fun ls hl => ?_)
  refine lv_aload_n hx hb d_Ar_fillI_2 rfl (lv_at hl 1 rfl) ?_
  refine va_alen (v := nI N) hx hb hK hP q0 t0 hw ht rfl d_Ar_fillI_3 ?_
  refine lv_istore_n (lv' := [(3, .int (nI N)), (2, .int 0), (0, .ref a), (1, .int v)]) hx hb d_Ar_fillI_4 rfl hl (by decide) rfl (fun ls hl => ?_)
  have e0 : ws0.set q0 (a, .inl (cA, N, .inl f)) = ws0 := list_set_same hw
  exact loop N 0 (by omega) (Nat.zero_le _) f (fun j hj => absurd hj (Nat.not_lt_zero j)) _ _ ls (by rw [e0]; exact hP) (by rw [e0]; exact hD) hS (lv_sub hl [2, 3, 1, 0] rfl)
theorem d_Ar_fillJ_0 : decode b_Ar_fillJ 0 = .ok (.iconst 0, 1) := by decide +kernel
theorem d_Ar_fillJ_1 : decode b_Ar_fillJ 1 = .ok (.istore_n 3, 1) := by decide +kernel
theorem d_Ar_fillJ_2 : decode b_Ar_fillJ 2 = .ok (.aload_n 0, 1) := by decide +kernel
theorem d_Ar_fillJ_3 : decode b_Ar_fillJ 3 = .ok (.arraylength, 1) := by decide +kernel
theorem d_Ar_fillJ_4 : decode b_Ar_fillJ 4 = .ok (.istore 4, 2) := by decide +kernel
theorem d_Ar_fillJ_6 : decode b_Ar_fillJ 6 = .ok (.iload_n 3, 1) := by decide +kernel
theorem d_Ar_fillJ_7 : decode b_Ar_fillJ 7 = .ok (.iload 4, 2) := by decide +kernel
theorem d_Ar_fillJ_9 : decode b_Ar_fillJ 9 = .ok (.if_icmp .ge 13, 3) := by decide +kernel
theorem d_Ar_fillJ_12 : decode b_Ar_fillJ 12 = .ok (.aload_n 0, 1) := by decide +kernel
theorem d_Ar_fillJ_13 : decode b_Ar_fillJ 13 = .ok (.iload_n 3, 1) := by decide +kernel
theorem d_Ar_fillJ_14 : decode b_Ar_fillJ 14 = .ok (.lload_n 1, 1) := by decide +kernel
theorem d_Ar_fillJ_15 : decode b_Ar_fillJ 15 = .ok (.lastore, 1) := by decide +kernel
theorem d_Ar_fillJ_16 : decode b_Ar_fillJ 16 = .ok (.iinc 3 1, 3) := by decide +kernel
theorem d_Ar_fillJ_19 : decode b_Ar_fillJ 19 = .ok (.goto (-13), 3) := by decide +kernel
theorem d_Ar_fillJ_22 : decode b_Ar_fillJ 22 = .ok (.return_, 1) := by decide +kernel
def rm_Ar_fillJ : Jvm.Room := { frames := 0, cells := 0, slots := 0, locals := 0 }
set_option maxHeartbeats 4000000 in
set_option maxRecDepth 100000 in
theorem c_Ar_fillJ {l : Launch} {D : va_G} {cl : List vw_C} {tys : List (ClassId × FieldType)} {ws0 : va_W} {sz a q0 N t0 : Nat} {cA : ClassId} {f : Nat → Int64} {v : Int64} (hw : ws0[q0]? = some (a, .inl (cA, N, .inr (.inl f)))) (ht : tys[t0]? = some (cA, .long)) (hN : N < 2 ^ 31 := by decide) : Met l y_Ar_fillJ (Cond.code y_Ar_fillJ b_Ar_fillJ 5 none :: TB) rm_Ar_fillJ (PreW D cl tys ws0 [.ref a, .long v] sz) (PstV D cl tys ws0 (ws0.set q0 (a, .inl (cA, N, .inr (.inl (fun _ => v))))) sz) 0 0 (va_A ws0 sz) := by
  refine k_met (by decide) (Nat.le_of_ble_eq_true rfl) ?_
  intro p e s m below meth c ls hx hb hr hml hts hown hlk hnm hsz hP hK hD hA hz hl
  have hS : va_S (va_A ws0 sz) s.heap s.heap [] := va_S.rf
  have hl : lv_has ls 5 [(0, .ref a), (1, .long v)] := hl
  have hq : q0 < ws0.length := (List.getElem?_eq_some_iff.mp hw).1
  generalize hQ : MQ below (PstV D cl tys ws0 (ws0.set q0 (a, .inl (cA, N, .inr (.inl (fun _ => v))))) sz) [.ref a, .long v].toArray s 0 0 (va_A ws0 sz) = Q
  have loop : ∀ (k i : Nat), N - i ≤ k → i ≤ N → ∀ (g : Nat → Int64), (∀ j, j < i → g j = v) → ∀ (H : Heap) (locs : List Loc) (ls : Array Slot), va_P D cl (ws0.set q0 (a, .inl (cA, N, .inr (.inl (g))))) H → va_D (va_A ws0 sz) (ws0.set q0 (a, .inl (cA, N, .inr (.inl (g))))) → va_S (va_A ws0 sz) s.heap H locs → lv_has ls 5 [(0, .ref a), (1, .long v), (3, .int (nI i)), (4, .int (nI N))] → W p l e rm_Ar_fillJ s m [.ref a, .long v].toArray below meth c H locs 0 0 Q (F0 m 6 ls []) := by
    intro k
    induction k with
    | zero =>
      intro i hk hi g hg H locs ls hP hD hS hl
      refine lv_iload_n hx hb d_Ar_fillJ_6 rfl (lv_at hl 2 rfl) ?_
      refine lv_iload hx hb d_Ar_fillJ_7 (lv_at hl 3 rfl) ?_
      refine lv_icmp_ge (tgt := 22) hx hb d_Ar_fillJ_9 (by decide) (fun c1 => ?_) (fun c1 => ?_)
      · have hge : N ≤ i := by
          rcases Nat.lt_or_ge i N with q | q
          · exact absurd c1 (nI_ge q hN)
          · exact q
        subst hQ
        have e1 : va_P D cl (ws0.set q0 (a, .inl (cA, N, .inr (.inl (fun _ => v))))) H := by
          have hx1 := hP q0 _ (List.getElem?_set_self hq)
          intro kk qq hk2
          by_cases hkq : kk = q0
          · subst hkq
            rw [List.getElem?_set_self hq] at hk2
            cases hk2
            have h9 : H[a]? = some (vp_cell cA (N, .inr (.inl (g)))) := hx1
            show H[a]? = some (vp_cell cA (N, .inr (.inl (fun _ => v))))
            rw [h9]
            congr 1
            rw [vp_cell_l, vp_cell_l]
            exact fill_eq (fun j hj => by rw [hg j (by omega)])
          · exact hP kk qq (by rw [List.getElem?_set_ne (fun z => hkq z.symm)] at hk2 ⊢; exact hk2)
        have e2 : va_D (va_A ws0 sz) (ws0.set q0 (a, .inl (cA, N, .inr (.inl (fun _ => v))))) := k_dset hD
        exact k_vret hx hb hr hlk e1 hK e2 hS d_Ar_fillJ_22
      · exact absurd (nI_le (by omega : N ≤ i) (by omega)) c1
    | succ k ih =>
      intro i hk hi g hg H locs ls hP hD hS hl
      refine lv_iload_n hx hb d_Ar_fillJ_6 rfl (lv_at hl 2 rfl) ?_
      refine lv_iload hx hb d_Ar_fillJ_7 (lv_at hl 3 rfl) ?_
      refine lv_icmp_ge (tgt := 22) hx hb d_Ar_fillJ_9 (by decide) (fun c1 => ?_) (fun c1 => ?_)
      · have hge : N ≤ i := by
          rcases Nat.lt_or_ge i N with q | q
          · exact absurd c1 (nI_ge q hN)
          · exact q
        subst hQ
        have e1 : va_P D cl (ws0.set q0 (a, .inl (cA, N, .inr (.inl (fun _ => v))))) H := by
          have hx1 := hP q0 _ (List.getElem?_set_self hq)
          intro kk qq hk2
          by_cases hkq : kk = q0
          · subst hkq
            rw [List.getElem?_set_self hq] at hk2
            cases hk2
            have h9 : H[a]? = some (vp_cell cA (N, .inr (.inl (g)))) := hx1
            show H[a]? = some (vp_cell cA (N, .inr (.inl (fun _ => v))))
            rw [h9]
            congr 1
            rw [vp_cell_l, vp_cell_l]
            exact fill_eq (fun j hj => by rw [hg j (by omega)])
          · exact hP kk qq (by rw [List.getElem?_set_ne (fun z => hkq z.symm)] at hk2 ⊢; exact hk2)
        have e2 : va_D (va_A ws0 sz) (ws0.set q0 (a, .inl (cA, N, .inr (.inl (fun _ => v))))) := k_dset hD
        exact k_vret hx hb hr hlk e1 hK e2 hS d_Ar_fillJ_22
      · have hlt : i < N := by
          rcases Nat.lt_or_ge i N with q | q
          · exact q
          · exact absurd (nI_le q (by omega)) c1
        refine lv_aload_n hx hb d_Ar_fillJ_12 rfl (lv_at hl 0 rfl) ?_
        refine lv_iload_n hx hb d_Ar_fillJ_13 rfl (lv_at hl 2 rfl) ?_
        refine lv_lload_n hx hb d_Ar_fillJ_14 rfl (lv_at hl 1 rfl) ?_
        refine va_last hx hb hK hP hD hS q0 t0 (List.getElem?_set_self hq) ht (vp_in_nI hlt hN) d_Ar_fillJ_15 (fun H locs hP hD hS => ?_)
        rw [List.set_set, nI_clamp (by omega)] at hP hD
        refine lv_iinc (v := nI (i + 1)) (lv' := [(3, .int (nI (i + 1))), (0, .ref a), (1, .long v), (4, .int (nI N))]) hx hb d_Ar_fillJ_16 hl (k := 2) rfl (nI_succ i).symm (by decide) rfl (fun ls hl => ?_)
        refine lv_goto (tgt := 6) hx hb d_Ar_fillJ_19 (by decide) ?_
        refine ih (i + 1) (by omega) hlt _ (fun j hj => ?_) H locs ls hP hD hS (lv_sub hl [1, 2, 0, 3] rfl)
        by_cases hj2 : j = i
        · subst hj2; exact if_pos rfl
        · exact (if_neg hj2).trans (hg j (by omega))
  refine lv_iconst (v := 0) hx hb d_Ar_fillJ_0 (by decide) ?_
  refine lv_istore_n (lv' := [(3, .int 0), (0, .ref a), (1, .long v)]) hx hb d_Ar_fillJ_1 rfl hl (by decide) rfl (fun ls hl => ?_)
  refine lv_aload_n hx hb d_Ar_fillJ_2 rfl (lv_at hl 1 rfl) ?_
  refine va_alen (v := nI N) hx hb hK hP q0 t0 hw ht rfl d_Ar_fillJ_3 ?_
  refine lv_istore (lv' := [(4, .int (nI N)), (3, .int 0), (0, .ref a), (1, .long v)]) hx hb d_Ar_fillJ_4 hl (by decide) rfl (fun ls hl => ?_)
  have e0 : ws0.set q0 (a, .inl (cA, N, .inr (.inl f))) = ws0 := list_set_same hw
  exact loop N 0 (by omega) (Nat.zero_le _) f (fun j hj => absurd hj (Nat.not_lt_zero j)) _ _ ls (by rw [e0]; exact hP) (by rw [e0]; exact hD) hS (lv_sub hl [2, 3, 1, 0] rfl)
