/-! heaps: both sides' sums over the papers -/
/-- k heaps, their sets S and papers P, as the rows hold them -/
def hp (cnt : Int32) (sets papers : Nat → Int32) (k : Nat) (S P : Nat → Nat) : Prop :=
  cnt = nI k ∧ k ≤ 7 ∧ (∀ j, j < k → sets j = nI (S j) ∧ S j < 256 ∧ papers j = nI (P j)) ∧ sm P k ≤ 600
def tel (k : Nat) (S P : Nat → Nat) (c : Nat) : Nat := sm (fun j => bt (S j) c * P j) k
def wrg (k : Nat) (S P : Nat → Nat) (x : Nat) : Nat := sm (fun j => if S j &&& x = 0 then P j else 0) k
def pre4 (w : Nat → Nat) (n : Nat) : Nat := sm w (min n 4)
def wor (k : Nat) (S P w : Nat → Nat) (x : Nat) : Nat := sm (fun j => P j * pre4 w (pc8 (S j &&& x))) k
theorem tel_le (k : Nat) (S P : Nat → Nat) (c : Nat) : tel k S P c ≤ sm P k := sm_le (fun j _ => by
  rcases bt_01 (S j) c with h | h <;> rw [h] <;> omega)
theorem wrg_le (k : Nat) (S P : Nat → Nat) (c : Nat) : wrg k S P c ≤ sm P k := sm_le (fun j _ => by split <;> omega)
theorem nI_le7 {i k : Nat} (hk : k ≤ 7) (hi : i ≤ 7) : nI k ≤ nI i ↔ k ≤ i := nI_leI (by omega) (by omega)
theorem tells_eq {cnt : Int32} {sets papers : Nat → Int32} {k : Nat} {S P : Nat → Nat} (h : hp cnt sets papers k S P) {j c : Nat} (hj : j < k) (hc : c < 8) : f_X3_tells (nI j) (nI c) sets = some (nI (bt (S j) c)) := by
  obtain ⟨-, hk, hh, -⟩ := h
  obtain ⟨h1, h2, -⟩ := hh j hj
  unfold f_X3_tells
  simp (disch := omega) only [ob_inN, nI_clamp, ob_sb, eq_self, if_true, if_false, nI_1, nI_add, pk_mul, h1, pb_bit]
  rcases bt_01 (S j) c with q | q <;> rw [q] <;> rfl
theorem total_lp {cnt : Int32} {sets papers : Nat → Int32} {k : Nat} {S P : Nat → Nat} (h : hp cnt sets papers k S P) : ∀ (d n i : Nat), i + d = k → d < n → lp_X3_total_4 cnt papers n (nI (sm P i)) (nI i) = some (nI (sm P k)) := by
  obtain ⟨rfl, hk, hh, -⟩ := h
  intro d
  induction d with
  | zero =>
    intro n i hi hn
    obtain ⟨n, rfl⟩ : ∃ m, n = m + 1 := ⟨n - 1, by omega⟩
    obtain rfl : i = k := by omega
    rw [lp_X3_total_4, if_pos ((nI_le7 hk hk).mpr (Nat.le_refl _))]
  | succ d ih =>
    intro n i hi hn
    obtain ⟨n, rfl⟩ : ∃ m, n = m + 1 := ⟨n - 1, by omega⟩
    have hik : i < k := by omega
    rw [lp_X3_total_4, if_neg (by rw [nI_le7 hk (by omega)]; omega)]
    simp (disch := omega) only [ob_inN, nI_clamp, ob_sb, eq_self, if_true, if_false, nI_1, nI_add, pk_mul, (hh i hik).2.2]
    exact ih n (i + 1) (by omega) (by omega)
theorem total_eq {cnt : Int32} {sets papers : Nat → Int32} {k : Nat} {S P : Nat → Nat} (h : hp cnt sets papers k S P) : f_X3_total cnt papers = some (nI (sm P k)) := by
  unfold f_X3_total
  have h1 := total_lp h k FU 0 (by omega) (by have := h.2.1; unfold FU; omega)
  rw [show sm P 0 = 0 from rfl] at h1
  rw [show (0 : Int32) = nI 0 from rfl, h1]
  rfl
theorem telling_lp {cnt : Int32} {sets papers : Nat → Int32} {k : Nat} {S P : Nat → Nat} (h : hp cnt sets papers k S P) {c : Nat} (hc : c < 8) : ∀ (d n i : Nat), i + d = k → d < n → lp_X3_telling_4 (nI c) cnt papers sets n (nI (tel i S P c)) (nI i) = some (nI (tel k S P c)) := by
  have ht := fun j hj => tells_eq h (j := j) hj hc
  obtain ⟨rfl, hk, hh, -⟩ := h
  intro d
  induction d with
  | zero =>
    intro n i hi hn
    obtain ⟨n, rfl⟩ : ∃ m, n = m + 1 := ⟨n - 1, by omega⟩
    obtain rfl : i = k := by omega
    rw [lp_X3_telling_4, if_pos ((nI_le7 hk hk).mpr (Nat.le_refl _))]
  | succ d ih =>
    intro n i hi hn
    obtain ⟨n, rfl⟩ : ∃ m, n = m + 1 := ⟨n - 1, by omega⟩
    have hik : i < k := by omega
    have hs : tel (i + 1) S P c = tel i S P c + bt (S i) c * P i := rfl
    have hi1 := ih n (i + 1) (by omega) (by omega)
    rw [hs] at hi1
    rw [lp_X3_telling_4, if_neg (by rw [nI_le7 hk (by omega)]; omega)]
    simp (disch := omega) only [ob_inN, nI_clamp, ob_sb, eq_self, if_true, if_false, nI_1, nI_add, pk_mul, ht i hik, (hh i hik).2.2]
    rcases bt_01 (S i) c with q | q
    · rw [q, Nat.zero_mul, Nat.add_zero] at hi1
      rw [q, if_pos (by decide)]
      exact hi1
    · rw [q, Nat.one_mul] at hi1
      rw [q, if_neg (by decide)]
      exact hi1
theorem telling_eq {cnt : Int32} {sets papers : Nat → Int32} {k : Nat} {S P : Nat → Nat} (h : hp cnt sets papers k S P) {c : Nat} (hc : c < 8) : f_X3_telling (nI c) cnt papers sets = some (nI (tel k S P c)) := by
  unfold f_X3_telling
  rw [show (0 : Int32) = nI 0 from rfl]
  have h1 := telling_lp h hc k FU 0 (by omega) (by have := h.2.1; unfold FU; omega)
  rw [show tel 0 S P c = 0 from rfl] at h1
  rw [h1]
  rfl
theorem wronged_lp {cnt : Int32} {sets papers : Nat → Int32} {k : Nat} {S P : Nat → Nat} (h : hp cnt sets papers k S P) {x : Nat} (hx : x < 256) : ∀ (d n i : Nat), i + d = k → d < n → lp_X3_wronged_4 (nI x) cnt papers sets n (nI (wrg i S P x)) (nI i) = some (nI (wrg k S P x)) := by
  obtain ⟨rfl, hk, hh, -⟩ := h
  intro d
  induction d with
  | zero =>
    intro n i hi hn
    obtain ⟨n, rfl⟩ : ∃ m, n = m + 1 := ⟨n - 1, by omega⟩
    obtain rfl : i = k := by omega
    rw [lp_X3_wronged_4, if_pos ((nI_le7 hk hk).mpr (Nat.le_refl _))]
  | succ d ih =>
    intro n i hi hn
    obtain ⟨n, rfl⟩ : ∃ m, n = m + 1 := ⟨n - 1, by omega⟩
    have hik : i < k := by omega
    obtain ⟨e1, e2, e3⟩ := hh i hik
    have hs : wrg (i + 1) S P x = wrg i S P x + if S i &&& x = 0 then P i else 0 := rfl
    have hi1 := ih n (i + 1) (by omega) (by omega)
    rw [hs] at hi1
    have ha := and_lt8 (b := x) e2
    have e0 : nI (S i &&& x) = 0 ↔ S i &&& x = 0 := nI_eq (b := 0) (by omega) (by decide)
    rw [lp_X3_wronged_4, if_neg (by rw [nI_le7 hk (by omega)]; omega)]
    simp (disch := omega) only [ob_inN, nI_clamp, eq_self, if_true, e1, e3, fa_and, nI_1, nI_add, e0]
    by_cases q : S i &&& x = 0
    · rw [if_pos q] at hi1
      rw [if_pos q]
      exact hi1
    · rw [if_neg q, Nat.add_zero] at hi1
      rw [if_neg q]
      exact hi1
theorem wronged_eq {cnt : Int32} {sets papers : Nat → Int32} {k : Nat} {S P : Nat → Nat} (h : hp cnt sets papers k S P) {x : Nat} (hx : x < 256) : f_X3_wronged (nI x) cnt papers sets = some (nI (wrg k S P x)) := by
  unfold f_X3_wronged
  have h1 := wronged_lp h hx k FU 0 (by omega) (by have := h.2.1; unfold FU; omega)
  rw [show (0 : Int32) = nI 0 from rfl]
  rw [show wrg 0 S P x = 0 from rfl] at h1
  rw [h1]
  rfl
theorem and_255 : ∀ x, x < 256 → x &&& 255 = x := by decide +kernel
/-- the worths together, as the class keeps them -/
def tgs (tg : Nat → Int32) (w : Nat → Nat) : Prop := ∀ n, n ≤ 8 → tg n = nI (pre4 w n)
theorem worthOf_lp {cnt : Int32} {sets papers : Nat → Int32} {k : Nat} {S P : Nat → Nat} (h : hp cnt sets papers k S P) {tg : Nat → Int32} {w : Nat → Nat} (ht : tgs tg w) {x : Nat} (hx : x < 256) : ∀ (d n i : Nat), i + d = k → d < n → lp_X3_worthOf_4 (nI x) cnt papers sets tg n (nI (wor i S P w x)) (nI i) = some (nI (wor k S P w x)) := by
  obtain ⟨rfl, hk, hh, -⟩ := h
  intro d
  induction d with
  | zero =>
    intro n i hi hn
    obtain ⟨n, rfl⟩ : ∃ m, n = m + 1 := ⟨n - 1, by omega⟩
    obtain rfl : i = k := by omega
    rw [lp_X3_worthOf_4, if_pos ((nI_le7 hk hk).mpr (Nat.le_refl _))]
  | succ d ih =>
    intro n i hi hn
    obtain ⟨n, rfl⟩ : ∃ m, n = m + 1 := ⟨n - 1, by omega⟩
    have hik : i < k := by omega
    obtain ⟨e1, e2, e3⟩ := hh i hik
    have hs : wor (i + 1) S P w x = wor i S P w x + P i * pre4 w (pc8 (S i &&& x)) := rfl
    have hi1 := ih n (i + 1) (by omega) (by omega)
    rw [hs] at hi1
    have ha := and_lt8 (b := x) e2
    have hp8 := pc8_le (S i &&& x)
    have e5 : nI (S i &&& x) &&& (255 : Int32) = nI (S i &&& x) := by
      rw [show (255 : Int32) = nI 255 from rfl, fa_and, and_255 _ ha]
    rw [lp_X3_worthOf_4, if_neg (by rw [nI_le7 hk (by omega)]; omega)]
    simp (disch := omega) only [ob_inN, nI_clamp, eq_self, if_true, e1, e3, fa_and, e5, bitCount_8 _ ha, ob_sb, ht _ hp8, nI_1, nI_add, pk_mul]
    exact hi1
theorem worthOf_eq {cnt : Int32} {sets papers : Nat → Int32} {k : Nat} {S P : Nat → Nat} (h : hp cnt sets papers k S P) {tg : Nat → Int32} {w : Nat → Nat} (ht : tgs tg w) {x : Nat} (hx : x < 256) : f_X3_worthOf (nI x) cnt papers sets tg = some (nI (wor k S P w x)) := by
  unfold f_X3_worthOf
  have h1 := worthOf_lp h ht hx k FU 0 (by omega) (by have := h.2.1; unfold FU; omega)
  rw [show (0 : Int32) = nI 0 from rfl]
  rw [show wor 0 S P w x = 0 from rfl] at h1
  rw [h1]
  rfl
