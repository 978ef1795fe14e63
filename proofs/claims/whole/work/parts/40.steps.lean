/-! the class's steps of a unit -/
def WaOK (wa : T_wa) : Prop := ∀ i, i < 256 → -1 ≤ (wa_rounds wa i).toInt ∧ (wa_rounds wa i).toInt ≤ 1000000003
/-- the steps of a unit as the class reckons them, capped -/
def stX (mc : T_mc) (u : Nat) (rd st : Nat → Int) : Int := wR mc u rd st (sz mc u) (sz mc u) 0 (r0 0) (sz mc u)
theorem wa_fault {n : Nat} (hn : 5000 ≤ n) {ko : T_ko} {mc : T_mc} (hc : CodeOK mc) (hk : KoRel ko mc) {u : Nat} (hu : u < nU mc) (hl : linesOK mc u) (ho : loopsOK mc u) {wa : T_wa} (hw : WaOK wa) (hst : ∀ a, a < u → -1 ≤ (wa_steps wa a).toInt ∧ (wa_steps wa a).toInt ≤ 1000000001) :
    ∃ wa' rd v, r_Wa_faultOf n ko wa (nI u) = some (cI (stX mc u rd (wI (wa_steps wa)) ≤ 1000000000) 0 11, wa') ∧ WaOK wa' ∧ wa_steps wa' = vp_updL (wa_steps wa) u v ∧ v.toInt = stX mc u rd (wI (wa_steps wa)) ∧ (∀ i, i < 256 → -1 ≤ rd i ∧ rd i ≤ 1000000003) ∧ rdOK mc u (wI (wa_steps wa)) rd 0 := by
  have hf := fi_le hc hu
  have h16 := hc.2.1
  unfold r_Wa_faultOf
  rw [show wa_unit (wa_unit_s wa (nI u)) = nI u from rfl, co_size hc hk hu, Option.bind_some, if_neg (lt0 (by omega)), if_neg (by rw [i_le, nI_t (by omega)]; show ¬ (16 : Int) ≤ _; omega), if_pos (by rw [i_le, nI_t (by omega)]; show _ ≤ (256 : Int); omega)]
  obtain ⟨w1, f', e1, e2, e3, e4, e5⟩ := wa_rounds_l hn hc hk hu hl ho hst (sz mc u) n (wa_unit_s wa (nI u)) (Nat.le_refl _) (by omega) rfl rfl hw (fun j a b => absurd b (by omega))
  rw [e1, r_Wa_faultOf_l47, if_pos (by decide), show (0 : Int32) = nI 0 from rfl]
  obtain ⟨w2, p1, p2, p3, p4, p5, p6⟩ := wa_walk hn hc hk hu hl ho (Nat.zero_le _) (Nat.le_refl (sz mc u)) e2 e4 (by rw [e3]; exact hst)
  have p4' : wa_steps w2 = wa_steps wa := p4.trans e3
  have ev : (wa_reached w2 (sz mc u)).toInt = stX mc u (wI (wa_rounds w1)) (wI (wa_steps wa)) := by
    have := p5 (sz mc u) (by omega); rw [e3] at this; exact this
  rw [p1, Option.bind_some, gr_nI (by omega) (by decide), p2, ga_nI (by omega) (by decide), nI_clamp (by omega), show wa_unit (wa_steps_s w2 (vp_updL (wa_steps w2) u (wa_reached w2 (sz mc u)))) = nI u from p2, gr_nI (by omega) (by decide)]
  show ∃ wa' rd v, (if lg_cmp (vp_updL (wa_steps w2) u (wa_reached w2 (sz mc u)) u) 1000000000 ≤ 0 then _ else _) = _ ∧ _
  rw [updL_at]
  refine ⟨wa_steps_s w2 (vp_updL (wa_steps w2) u (wa_reached w2 (sz mc u))), wI (wa_rounds w1), wa_reached w2 (sz mc u), ?_, fun i hi => by show -1 ≤ (wa_rounds w2 i).toInt ∧ (wa_rounds w2 i).toInt ≤ _; rw [p3]; exact e4 i hi, by show vp_updL (wa_steps w2) u _ = _; rw [p4'], ev, e4, e5⟩
  by_cases c : stX mc u (wI (wa_rounds w1)) (wI (wa_steps wa)) ≤ 1000000000
  · rw [if_pos (by rw [lc_le, K1000000000, ev]; exact c), cI_t c]
  · rw [if_neg (by rw [lc_le, K1000000000, ev]; exact c), cI_f c]
