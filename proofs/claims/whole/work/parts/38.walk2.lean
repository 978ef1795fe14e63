/-! what a walk's row has: all ways are in it, and each number is a way's -/
theorem rT_ge {b : Nat} {r : Nat → Int} {t v : Int} {i : Nat} : r i ≤ rT b r t v i := by unfold rT mx; (repeat' split) <;> omega
theorem rL_ge {b : Nat} {v : Int} {i : Nat} : ∀ (l : List (Int × Int)) (r : Nat → Int), r i ≤ rL b v l r i := by
  intro l
  induction l with
  | nil => intro r; exact Int.le_refl _
  | cons x l ih => intro r; exact Int.le_trans rT_ge (ih _)
theorem rL_in {b : Nat} {v : Int} {i : Nat} (hi : i ≤ b) : ∀ (l : List (Int × Int)) (r : Nat → Int) (x : Int × Int), x ∈ l → (i : Int) = x.1 → cap (v + x.2) ≤ rL b v l r i := by
  intro l
  induction l with
  | nil => intro r x hx; exact absurd hx List.not_mem_nil
  | cons y l ih =>
    intro r x hx e
    rcases List.mem_cons.mp hx with h | h
    · subst h
      refine Int.le_trans ?_ (rL_ge l _)
      unfold rT; rw [if_pos ⟨e, hi⟩]; unfold mx; split <;> omega
    · exact ih _ x h e
theorem rL_or {b : Nat} {v : Int} {i : Nat} : ∀ (l : List (Int × Int)) (r : Nat → Int), rL b v l r i = r i ∨ ∃ x, x ∈ l ∧ (i : Int) = x.1 ∧ i ≤ b ∧ rL b v l r i = cap (v + x.2) := by
  intro l
  induction l with
  | nil => intro r; exact Or.inl rfl
  | cons y l ih =>
    intro r
    rcases ih (rT b r y.1 (v + y.2)) with h | ⟨x, a, c⟩
    · by_cases z : (i : Int) = y.1 ∧ i ≤ b
      · by_cases w : r i ≤ cap (v + y.2)
        · refine Or.inr ⟨y, List.mem_cons_self, z.1, z.2, ?_⟩
          show rL b v l (rT b r y.1 (v + y.2)) i = _
          rw [h]; unfold rT mx; rw [if_pos z, if_pos w]
        · refine Or.inl ?_
          show rL b v l (rT b r y.1 (v + y.2)) i = _
          rw [h]; unfold rT mx; rw [if_pos z, if_neg w]
      · refine Or.inl ?_
        show rL b v l (rT b r y.1 (v + y.2)) i = _
        rw [h]; unfold rT; rw [if_neg z]
    · exact Or.inr ⟨x, List.mem_cons_of_mem _ a, c⟩
/-- all goes forward -/
theorem xE_fw {mc : T_mc} {u k : Nat} {rd st : Nat → Int} (hl : linesOK mc u) (hks : k < sz mc u) : ∀ x, x ∈ xE mc u rd st k → (k : Int) < x.1 ∧ x.1 ≤ sz mc u := by
  intro x hx
  unfold xE at hx
  split at hx
  · rename_i c; have := tgt10 hl hks (Or.inl c); simp only [List.mem_cons, List.not_mem_nil, or_false] at hx; subst hx; dsimp only; omega
  split at hx
  · rename_i c; have := tgt10 hl hks (Or.inr c); simp only [List.mem_cons, List.not_mem_nil, or_false] at hx; rcases hx with hx | hx <;> subst hx <;> dsimp only <;> omega
  split at hx
  · rename_i c; have := tgt13 hl hks c
    split at hx
    · simp only [List.mem_cons, List.not_mem_nil, or_false] at hx; subst hx; dsimp only; omega
    · simp only [List.mem_cons, List.not_mem_nil, or_false] at hx; subst hx; dsimp only; omega
  split at hx
  · simp only [List.mem_cons, List.not_mem_nil, or_false] at hx; subst hx; dsimp only; omega
  split at hx
  · simp only [List.mem_cons, List.not_mem_nil, or_false] at hx; subst hx; dsimp only; omega
  split at hx
  · simp only [List.mem_cons, List.not_mem_nil, or_false] at hx; subst hx; dsimp only; omega
  · simp only [List.mem_cons, List.not_mem_nil, or_false] at hx; subst hx; dsimp only; omega
def wInv (mc : T_mc) (u : Nat) (rd st : Nat → Int) (a b k : Nat) (r : Nat → Int) : Prop :=
  r a = 0 ∧ (∀ t, t < a → r t = -1) ∧ (∀ t, t ≤ b → -1 ≤ r t ∧ r t ≤ 1000000001) ∧
  (∀ j, a ≤ j → j < k → r j ≠ -1 → ∀ x, x ∈ xE mc u rd st j → ∀ t : Nat, t ≤ b → (t : Int) = x.1 → cap (r j + x.2) ≤ r t) ∧
  ∀ t, t ≤ b → t ≠ a → r t ≠ -1 → ∃ j, a ≤ j ∧ j < k ∧ j < t ∧ r j ≠ -1 ∧ ∃ x, x ∈ xE mc u rd st j ∧ (t : Int) = x.1 ∧ r t = cap (r j + x.2)
theorem wR_inv {mc : T_mc} {u a b : Nat} {rd st : Nat → Int} (hl : linesOK mc u) (hb : b ≤ sz mc u) (hrd : ∀ i, -1 ≤ rd i) (hst : ∀ i, -1 ≤ st i) : ∀ (m k : Nat) (r : Nat → Int), k + m = b → a ≤ k → wInv mc u rd st a b k r → wInv mc u rd st a b b (wR mc u rd st b m k r) := by
  intro m
  induction m with
  | zero => intro k r e _ h; rw [show k = b by omega] at h; exact h
  | succ m ih =>
    intro k r e ha h
    have hks : k < sz mc u := by omega
    rw [wR]
    obtain ⟨h1, h2, h3, h4, h5⟩ := h
    split
    · rename_i c
      refine ih (k + 1) r (by omega) (by omega) ⟨h1, h2, h3, fun j p q z => ?_, fun t p q z => ?_⟩
      · by_cases ej : j = k
        · exact absurd (ej ▸ c) z
        · exact h4 j p (by omega) z
      · obtain ⟨j, x1, x2, x3⟩ := h5 t p q z; exact ⟨j, x1, by omega, x3⟩
    · rename_i c
      have hk3 := h3 k (by omega)
      have keep : ∀ i, i ≤ k → rL b (r k) (xE mc u rd st k) r i = r i := fun i hi => by
        rcases rL_or (b := b) (v := r k) (i := i) (xE mc u rd st k) r with z | ⟨x, y1, y2, -⟩
        · exact z
        · have := xE_fw hl hks x y1; omega
      refine ih (k + 1) _ (by omega) (by omega) ⟨by rw [keep a ha]; exact h1, fun t ht => by rw [keep t (by omega)]; exact h2 t ht, fun t ht => rL_rg _ _ (fun x hx => by have := xE_w (hrd k) (fun _ => hst _) x hx; omega) (h3 t ht), fun j p q z x hx t ht et => ?_, fun t p q z => ?_⟩
      · have hjk : j ≤ k := by omega
        rw [keep j hjk] at z ⊢
        by_cases ej : j = k
        · subst ej; exact rL_in ht _ _ x hx et
        · exact Int.le_trans (h4 j p (by omega) z x hx t ht et) (rL_ge _ _)
      · rcases rL_or (b := b) (v := r k) (i := t) (xE mc u rd st k) r with w | ⟨x, y1, y2, y3, y4⟩
        · rw [w] at z
          obtain ⟨j, x1, x2, x3, x4, x, x5, x6, x7⟩ := h5 t p q z
          exact ⟨j, x1, by omega, x3, by rw [keep j (by omega)]; exact x4, x, x5, x6, by rw [w, keep j (by omega)]; exact x7⟩
        · have := xE_fw hl hks x y1
          exact ⟨k, ha, by omega, by omega, by rw [keep k (Nat.le_refl _)]; exact c, x, y1, y2, by rw [y4, keep k (Nat.le_refl _)]⟩
theorem wR_ok {mc : T_mc} {u a b : Nat} {rd st : Nat → Int} (hl : linesOK mc u) (hab : a ≤ b) (hb : b ≤ sz mc u) (hrd : ∀ i, -1 ≤ rd i) (hst : ∀ i, -1 ≤ st i) : wInv mc u rd st a b b (wR mc u rd st b (b - a) a (r0 a)) := by
  refine wR_inv hl hb hrd hst (b - a) a (r0 a) (by omega) (Nat.le_refl _) ⟨if_pos rfl, fun t ht => if_neg (by omega), fun t _ => ?_, fun j p q => absurd q (by omega), fun t _ q z => absurd (if_neg q) z⟩
  unfold r0; split <;> omega
