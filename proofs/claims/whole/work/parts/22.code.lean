/-! the class's readings of the code -/
def sz (mc : T_mc) (u : Nat) : Nat := fi mc (u + 1) - fi mc u
theorem fi_le {mc : T_mc} (hc : CodeOK mc) {u : Nat} (hu : u < nU mc) : fi mc u ≤ fi mc (u + 1) ∧ fi mc (u + 1) ≤ nT mc ∧ fi mc u + sz mc u = fi mc (u + 1) ∧ sz mc u ≤ 256 := by
  have h1 := hc.2.2.2.2.2.1 u hu
  have h2 : fi mc (u + 1) ≤ nT mc := fi_mono hc (by omega) (Nat.le_refl _)
  have h3 := hc.2.2.2.1
  unfold sz
  omega
theorem lt0 {k : Nat} (h : k < 2147483648) : ¬ nI k < 0 := by rw [i_lt, nI_t h]; show ¬ _ < (0 : Int); omega
theorem co_has {n : Nat} {ko : T_ko} {mc : T_mc} (hc : CodeOK mc) (hk : KoRel ko mc) {u : Nat} (hu : u < nU mc) : r_Co_hasUnit n ko (nI u) = some 1 := by
  have h16 := hc.2.1
  unfold r_Co_hasUnit
  rw [if_neg (lt0 (by omega)), if_neg (by rw [hk.1, hc.1, i_le, nI_t (by omega), nI_t (by omega)]; omega)]
theorem co_size {n : Nat} {ko : T_ko} {mc : T_mc} (hc : CodeOK mc) (hk : KoRel ko mc) {u : Nat} (hu : u < nU mc) : r_Co_sizeOf n ko (nI u) = some (nI (sz mc u)) := by
  have h16 := hc.2.1
  unfold r_Co_sizeOf
  rw [co_has hc hk hu, Option.bind_some, if_neg (show ¬ (1 : Int32) = 0 by decide), gr_nI (by omega) (by decide), (hk.2.2.1 u hu).2.2.2]; rfl
theorem co_frame {n : Nat} {ko : T_ko} {mc : T_mc} (hc : CodeOK mc) (hk : KoRel ko mc) {u : Nat} (hu : u < nU mc) : r_Co_frameOf n ko (nI u) = some (mc_frames mc u) := by
  have h16 := hc.2.1
  unfold r_Co_frameOf
  rw [co_has hc hk hu, Option.bind_some, if_neg (show ¬ (1 : Int32) = 0 by decide), gr_nI (by omega) (by decide), (hk.2.2.1 u hu).1]
theorem co_place {n : Nat} {ko : T_ko} {mc : T_mc} (hc : CodeOK mc) (hk : KoRel ko mc) {u : Nat} (hu : u < nU mc) : r_Co_placeOf n ko (nI u) = some (mc_places mc u) := by
  have h16 := hc.2.1
  unfold r_Co_placeOf
  rw [co_has hc hk hu, Option.bind_some, if_neg (show ¬ (1 : Int32) = 0 by decide), gr_nI (by omega) (by decide), (hk.2.2.1 u hu).2.1]
theorem co_numberAt {n : Nat} {ko : T_ko} {mc : T_mc} (hc : CodeOK mc) (hk : KoRel ko mc) {u k : Nat} (hu : u < nU mc) (h : k < sz mc u) : r_Co_numberAt n ko (nI u) (nI k) = some (mc_numbers mc (fi mc u + k)) := by
  have h16 := hc.2.1
  have h256 := hc.2.2.2.1
  have hf := fi_le hc hu
  have e := hk.2.2.1 u hu
  have ef : ko_firsts ko u = nI (fi mc u) := e.2.2.1.trans (hc.2.2.2.2.2.2.1 u (by omega))
  have es : nI k < ko_sizes ko u := by rw [e.2.2.2, i_lt, nI_t (by omega), nI_t (by omega)]; unfold sz at h; omega
  unfold r_Co_numberAt r_Co_entry_numbers
  rw [if_neg (lt0 (by omega)), if_neg (by rw [hk.1, hc.1, i_le, nI_t (by omega), nI_t (by omega)]; omega), if_neg (lt0 (by omega)), gr_nI (by omega) (by decide), if_pos es, gr_nI (by omega) (by decide), ef, nI_add, if_neg (lt0 (by omega)), if_neg (by rw [i_le, nI_t (by omega)]; show ¬ (256 : Int) ≤ _; omega), gr_nI (by omega) (by decide), (hk.2.2.2 _ (by omega)).1]; rfl
theorem co_numberAt_o {n : Nat} {ko : T_ko} {mc : T_mc} (hc : CodeOK mc) (hk : KoRel ko mc) {u : Nat} {x : Int32} (hu : u < nU mc) (h : x.toInt < 0 ∨ (sz mc u : Int) ≤ x.toInt) : r_Co_numberAt n ko (nI u) x = some (-1) := by
  have h16 := hc.2.1
  have hf := fi_le hc hu
  have e := hk.2.2.1 u hu
  have z0 : (0 : Int32).toInt = 0 := by decide
  unfold r_Co_numberAt r_Co_entry_numbers
  rw [if_neg (lt0 (by omega)), if_neg (by rw [hk.1, hc.1, i_le, nI_t (by omega), nI_t (by omega)]; omega)]
  by_cases c1 : x < 0
  · rw [if_pos c1]; rfl
  · rw [if_neg c1, gr_nI (by omega) (by decide), if_neg]
    · rfl
    · rw [e.2.2.2, i_lt, nI_t (by omega)]; rw [i_lt] at c1; unfold sz at h; omega
theorem co_aAt {n : Nat} {ko : T_ko} {mc : T_mc} (hc : CodeOK mc) (hk : KoRel ko mc) {u k : Nat} (hu : u < nU mc) (h : k < sz mc u) : r_Co_aAt n ko (nI u) (nI k) = some (mc_as_ mc (fi mc u + k)) := by
  have h16 := hc.2.1
  have h256 := hc.2.2.2.1
  have hf := fi_le hc hu
  have e := hk.2.2.1 u hu
  have ef : ko_firsts ko u = nI (fi mc u) := e.2.2.1.trans (hc.2.2.2.2.2.2.1 u (by omega))
  have es : nI k < ko_sizes ko u := by rw [e.2.2.2, i_lt, nI_t (by omega), nI_t (by omega)]; unfold sz at h; omega
  unfold r_Co_aAt r_Co_entry_as
  rw [if_neg (lt0 (by omega)), if_neg (by rw [hk.1, hc.1, i_le, nI_t (by omega), nI_t (by omega)]; omega), if_neg (lt0 (by omega)), gr_nI (by omega) (by decide), if_pos es, gr_nI (by omega) (by decide), ef, nI_add, if_neg (lt0 (by omega)), if_neg (by rw [i_le, nI_t (by omega)]; show ¬ (256 : Int) ≤ _; omega), gr_nI (by omega) (by decide), (hk.2.2.2 _ (by omega)).2.1]; rfl
theorem co_aAt_o {n : Nat} {ko : T_ko} {mc : T_mc} (hc : CodeOK mc) (hk : KoRel ko mc) {u : Nat} {x : Int32} (hu : u < nU mc) (h : x.toInt < 0 ∨ (sz mc u : Int) ≤ x.toInt) : r_Co_aAt n ko (nI u) x = some (-1) := by
  have h16 := hc.2.1
  have hf := fi_le hc hu
  have e := hk.2.2.1 u hu
  have z0 : (0 : Int32).toInt = 0 := by decide
  unfold r_Co_aAt r_Co_entry_as
  rw [if_neg (lt0 (by omega)), if_neg (by rw [hk.1, hc.1, i_le, nI_t (by omega), nI_t (by omega)]; omega)]
  by_cases c1 : x < 0
  · rw [if_pos c1]; rfl
  · rw [if_neg c1, gr_nI (by omega) (by decide), if_neg]
    · rfl
    · rw [e.2.2.2, i_lt, nI_t (by omega)]; rw [i_lt] at c1; unfold sz at h; omega
theorem co_bAt {n : Nat} {ko : T_ko} {mc : T_mc} (hc : CodeOK mc) (hk : KoRel ko mc) {u k : Nat} (hu : u < nU mc) (h : k < sz mc u) : r_Co_bAt n ko (nI u) (nI k) = some (mc_bs mc (fi mc u + k)) := by
  have h16 := hc.2.1
  have h256 := hc.2.2.2.1
  have hf := fi_le hc hu
  have e := hk.2.2.1 u hu
  have ef : ko_firsts ko u = nI (fi mc u) := e.2.2.1.trans (hc.2.2.2.2.2.2.1 u (by omega))
  have es : nI k < ko_sizes ko u := by rw [e.2.2.2, i_lt, nI_t (by omega), nI_t (by omega)]; unfold sz at h; omega
  unfold r_Co_bAt r_Co_entry_bs
  rw [if_neg (lt0 (by omega)), if_neg (by rw [hk.1, hc.1, i_le, nI_t (by omega), nI_t (by omega)]; omega), if_neg (lt0 (by omega)), gr_nI (by omega) (by decide), if_pos es, gr_nI (by omega) (by decide), ef, nI_add, if_neg (lt0 (by omega)), if_neg (by rw [i_le, nI_t (by omega)]; show ¬ (256 : Int) ≤ _; omega), gr_nI (by omega) (by decide), (hk.2.2.2 _ (by omega)).2.2.1]; rfl
theorem co_bAt_o {n : Nat} {ko : T_ko} {mc : T_mc} (hc : CodeOK mc) (hk : KoRel ko mc) {u : Nat} {x : Int32} (hu : u < nU mc) (h : x.toInt < 0 ∨ (sz mc u : Int) ≤ x.toInt) : r_Co_bAt n ko (nI u) x = some (-1) := by
  have h16 := hc.2.1
  have hf := fi_le hc hu
  have e := hk.2.2.1 u hu
  have z0 : (0 : Int32).toInt = 0 := by decide
  unfold r_Co_bAt r_Co_entry_bs
  rw [if_neg (lt0 (by omega)), if_neg (by rw [hk.1, hc.1, i_le, nI_t (by omega), nI_t (by omega)]; omega)]
  by_cases c1 : x < 0
  · rw [if_pos c1]; rfl
  · rw [if_neg c1, gr_nI (by omega) (by decide), if_neg]
    · rfl
    · rw [e.2.2.2, i_lt, nI_t (by omega)]; rw [i_lt] at c1; unfold sz at h; omega
theorem co_cAt {n : Nat} {ko : T_ko} {mc : T_mc} (hc : CodeOK mc) (hk : KoRel ko mc) {u k : Nat} (hu : u < nU mc) (h : k < sz mc u) : r_Co_cAt n ko (nI u) (nI k) = some (mc_cs mc (fi mc u + k)) := by
  have h16 := hc.2.1
  have h256 := hc.2.2.2.1
  have hf := fi_le hc hu
  have e := hk.2.2.1 u hu
  have ef : ko_firsts ko u = nI (fi mc u) := e.2.2.1.trans (hc.2.2.2.2.2.2.1 u (by omega))
  have es : nI k < ko_sizes ko u := by rw [e.2.2.2, i_lt, nI_t (by omega), nI_t (by omega)]; unfold sz at h; omega
  unfold r_Co_cAt r_Co_entry_cs
  rw [if_neg (lt0 (by omega)), if_neg (by rw [hk.1, hc.1, i_le, nI_t (by omega), nI_t (by omega)]; omega), if_neg (lt0 (by omega)), gr_nI (by omega) (by decide), if_pos es, gr_nI (by omega) (by decide), ef, nI_add, if_neg (lt0 (by omega)), if_neg (by rw [i_le, nI_t (by omega)]; show ¬ (256 : Int) ≤ _; omega), gr_nI (by omega) (by decide), (hk.2.2.2 _ (by omega)).2.2.2]; rfl
theorem co_cAt_o {n : Nat} {ko : T_ko} {mc : T_mc} (hc : CodeOK mc) (hk : KoRel ko mc) {u : Nat} {x : Int32} (hu : u < nU mc) (h : x.toInt < 0 ∨ (sz mc u : Int) ≤ x.toInt) : r_Co_cAt n ko (nI u) x = some (-1) := by
  have h16 := hc.2.1
  have hf := fi_le hc hu
  have e := hk.2.2.1 u hu
  have z0 : (0 : Int32).toInt = 0 := by decide
  unfold r_Co_cAt r_Co_entry_cs
  rw [if_neg (lt0 (by omega)), if_neg (by rw [hk.1, hc.1, i_le, nI_t (by omega), nI_t (by omega)]; omega)]
  by_cases c1 : x < 0
  · rw [if_pos c1]; rfl
  · rw [if_neg c1, gr_nI (by omega) (by decide), if_neg]
    · rfl
    · rw [e.2.2.2, i_lt, nI_t (by omega)]; rw [i_lt] at c1; unfold sz at h; omega
