/-! LOAD -/
def su (k : Nat) (S P u : Nat → Nat) (c : Nat) : Nat := sm (fun j => bt (S j) c * P j * u j) k
def lw (k : Nat) (S P : Nat → Nat) (lo : Nat) (u : Nat → Nat) (c : Nat) : Nat := lo + su k S P u c
/-- seven places of a row of longs, from off on -/
def upr (up : Nat → Int64) (off : Nat) (u : Nat → Nat) : Prop := ∀ j, j < 7 → up (off + j) = lN (u j)
theorem hp_P {cnt : Int32} {sets papers : Nat → Int32} {k : Nat} {S P : Nat → Nat} (h : hp cnt sets papers k S P) {j : Nat} (hj : j < k) : P j ≤ 600 := Nat.le_trans (sm_one P hj) h.2.2.2
theorem lN_00 : (0 : Int64) = lN 0 := rfl
theorem lN_11 : (1 : Int64) = lN 1 := rfl
theorem bind_id {α : Type} {x : Option α} {v : α} (h : x = some v) : x.bind (fun q => some q) = some v := by rw [h]; rfl
theorem sumOf5_eq {cnt : Int32} {sets papers : Nat → Int32} {k : Nat} {S P : Nat → Nat} (h : hp cnt sets papers k S P) {up : Nat → Int64} {u : Nat → Nat} (hu : upr up 0 u) {c : Nat} (hc : c < 8) : f_X1_sumOf_X5 (nI c) cnt papers sets up = some (lN (su k S P u c)) := by
  have hb := fun j hj => hp_P h (j := j) hj
  have ht := fun j hj => tells_eq h (j := j) hj hc
  obtain ⟨rfl, hk, hh, -⟩ := h
  have h1 := up0 (k := k) (fun n i => lp_X1_sumOf_X5_5 (nI c) (nI k) papers sets up n (lN (su i S P u c)) (nI i) = some (lN (su k S P u c))) (by omega)
    (fun n => by rw [lp_X1_sumOf_X5_5, if_pos ((nI_le7 hk hk).mpr (Nat.le_refl _))])
    (fun n i hi ih => by
      have hPi := hb i hi
      have hs : su (i + 1) S P u c = su i S P u c + bt (S i) c * P i * u i := rfl
      rw [hs] at ih
      have e1 := hu i (by omega)
      rw [Nat.zero_add] at e1
      rw [lp_X1_sumOf_X5_5, if_neg (by rw [nI_le7 hk (by omega)]; omega), ht i hi, ob_sb]
      rcases bt_01 (S i) c with q | q
      · rw [q, Nat.zero_mul, Nat.zero_mul, Nat.add_zero] at ih
        rw [q, if_pos (by decide), nI_1]
        exact ih
      · rw [q, Nat.one_mul, Nat.mul_comm] at ih
        rw [q, if_neg (by decide)]
        simp (disch := omega) only [ob_inN, nI_clamp, eq_self, if_true, e1, (hh i hi).2.2, nI_l, lN_mul, lN_add, nI_1]
        exact ih)
  unfold f_X1_sumOf_X5
  exact bind_id h1
theorem sumOf6_eq {cnt : Int32} {sets papers : Nat → Int32} {k : Nat} {S P : Nat → Nat} (h : hp cnt sets papers k S P) {up : Nat → Int64} {u : Nat → Nat} (hu : upr up 0 u) {c : Nat} (hc : c < 8) : f_X1_sumOf_X6 (nI c) cnt papers sets up = some (lN (su k S P u c)) := by
  have hb := fun j hj => hp_P h (j := j) hj
  have ht := fun j hj => tells_eq h (j := j) hj hc
  obtain ⟨rfl, hk, hh, -⟩ := h
  have h1 := up0 (k := k) (fun n i => lp_X1_sumOf_X6_5 (nI c) (nI k) papers sets up n (lN (su i S P u c)) (nI i) = some (lN (su k S P u c))) (by omega)
    (fun n => by rw [lp_X1_sumOf_X6_5, if_pos ((nI_le7 hk hk).mpr (Nat.le_refl _))])
    (fun n i hi ih => by
      have hPi := hb i hi
      have hs : su (i + 1) S P u c = su i S P u c + bt (S i) c * P i * u i := rfl
      rw [hs] at ih
      have e1 := hu i (by omega)
      rw [Nat.zero_add] at e1
      rw [lp_X1_sumOf_X6_5, if_neg (by rw [nI_le7 hk (by omega)]; omega), ht i hi, ob_sb]
      rcases bt_01 (S i) c with q | q
      · rw [q, Nat.zero_mul, Nat.zero_mul, Nat.add_zero] at ih
        rw [q, if_pos (by decide), nI_1]
        exact ih
      · rw [q, Nat.one_mul, Nat.mul_comm] at ih
        rw [q, if_neg (by decide)]
        simp (disch := omega) only [ob_inN, nI_clamp, eq_self, if_true, e1, (hh i hi).2.2, nI_l, lN_mul, lN_add, nI_1]
        exact ih)
  unfold f_X1_sumOf_X6
  exact bind_id h1
theorem ob_let_eq {α β : Type} (a : α) (g : α → β) : ob_let a g = g a := rfl
theorem row_ix {n i : Nat} : ((7 : Int32) * nI n) + nI i = nI (7 * n + i) := by rw [show (7 : Int32) = nI 7 from rfl, pk_mul, nI_add]
theorem btP_lt {s c p : Nat} (hp : p ≤ 600) : bt s c * p ≤ 600 := by
  rcases bt_01 s c with q | q <;> rw [q] <;> omega
theorem load54_eq {cnt : Int32} {sets papers : Nat → Int32} {k : Nat} {S P : Nat → Nat} (h : hp cnt sets papers k S P) {up : Nat → Int64} {u : Nat → Nat} {r : Nat} (hr : r ≤ 4) (hu : upr up (7 * r) u) {c : Nat} (hc : c < 8) (y2 : Int32) (y3 y5 y8 : Int64) (a : Nat) : lp_X11_loadOne_54 (nI r) y2 y3 y5 (nI c) y8 cnt papers sets up FU (lN a) (0 : Int32) = some (lN (a + su k S P u c)) := by
  have hb := fun j hj => hp_P h (j := j) hj
  obtain ⟨rfl, hk, hh, -⟩ := h
  have h1 := up0 (k := k) (fun n i => lp_X11_loadOne_54 (nI r) y2 y3 y5 (nI c) y8 (nI k) papers sets up n (lN (a + su i S P u c)) (nI i) = some (lN (a + su k S P u c))) (by omega)
    (fun n => by rw [lp_X11_loadOne_54, if_pos ((nI_le7 hk hk).mpr (Nat.le_refl _))])
    (fun n i hi ih => by
      obtain ⟨e1, e2, e3⟩ := hh i hi
      have hPi := btP_lt (s := S i) (c := c) (hb i hi)
      have hs : su (i + 1) S P u c = su i S P u c + bt (S i) c * P i * u i := rfl
      rw [hs, ← Nat.add_assoc] at ih
      have e4 := hu i (by omega)
      rw [lp_X11_loadOne_54, if_neg (by rw [nI_le7 hk (by omega)]; omega)]
      simp (disch := omega) only [row_ix, ob_inN, nI_clamp, eq_self, if_true, e1, e3, e4, pb_bit, pk_mul, nI_l, lN_mul, lN_add, nI_1, ob_let_eq]
      exact ih)
  exact h1
/-- the lightest, among those that are left and have papers -/
def al (k : Nat) (S P : Nat → Nat) (x lo : Nat) (u : Nat → Nat) : Nat → Option Nat
  | 0 => none
  | n + 1 => match al k S P x lo u n with
    | none => if bt x n = 0 ∧ 0 < tel k S P n then some n else none
    | some b => if bt x n = 0 ∧ 0 < tel k S P n ∧ lw k S P lo u n * tel k S P b < lw k S P lo u b * tel k S P n then some n else some b
theorem al_s (k : Nat) (S P : Nat → Nat) (x lo : Nat) (u : Nat → Nat) (n : Nat) : al k S P x lo u (n + 1) = match al k S P x lo u n with
    | none => if bt x n = 0 ∧ 0 < tel k S P n then some n else none
    | some b => if bt x n = 0 ∧ 0 < tel k S P n ∧ lw k S P lo u n * tel k S P b < lw k S P lo u b * tel k S P n then some n else some b := rfl
theorem al_in {k : Nat} {S P : Nat → Nat} {x lo : Nat} {u : Nat → Nat} : ∀ {n b : Nat}, al k S P x lo u n = some b → b < n ∧ bt x b = 0 ∧ 0 < tel k S P b := by
  intro n
  induction n with
  | zero => intro b h; cases h
  | succ n ih =>
    intro b h
    rw [al_s] at h
    cases e : al k S P x lo u n with
    | none =>
      rw [e] at h
      dsimp only at h
      by_cases q : bt x n = 0 ∧ 0 < tel k S P n
      · rw [if_pos q] at h; cases h; exact ⟨by omega, q⟩
      · rw [if_neg q] at h; cases h
    | some d =>
      rw [e] at h
      dsimp only at h
      obtain ⟨h1, h2⟩ := ih e
      by_cases q : bt x n = 0 ∧ 0 < tel k S P n ∧ lw k S P lo u n * tel k S P d < lw k S P lo u d * tel k S P n
      · rw [if_pos q] at h; cases h; exact ⟨by omega, q.1, q.2.1⟩
      · rw [if_neg q] at h; cases h; exact ⟨by omega, h2⟩
theorem al_none {k : Nat} {S P : Nat → Nat} {x lo : Nat} {u : Nat → Nat} : ∀ {n : Nat}, al k S P x lo u n = none → ∀ c, c < n → bt x c = 0 → tel k S P c = 0 := by
  intro n
  induction n with
  | zero => intro _ c hc; omega
  | succ n ih =>
    intro h c hc hb
    rw [al_s] at h
    cases e : al k S P x lo u n with
    | none =>
      rw [e] at h
      dsimp only at h
      by_cases q : bt x n = 0 ∧ 0 < tel k S P n
      · rw [if_pos q] at h; cases h
      · rcases Nat.lt_or_ge c n with q1 | q1
        · exact ih e c q1 hb
        · obtain rfl : c = n := by omega
          rcases Nat.eq_zero_or_pos (tel k S P c) with q2 | q2
          · exact q2
          · exact absurd ⟨hb, q2⟩ q
    | some d =>
      rw [e] at h
      dsimp only at h
      split at h <;> cases h
/-- whom LOAD picks -/
def lpk (k : Nat) (S P : Nat → Nat) (x lo : Nat) (u : Nat → Nat) : Nat := match al k S P x lo u 8 with
  | some b => b
  | none => pk8 x (tel k S P)
theorem lpk_ok (k : Nat) (S P : Nat → Nat) (x lo : Nat) (u : Nat → Nat) (hx : x < 256) (hp : pc8 x < 8) : lpk k S P x lo u < 8 ∧ bt x (lpk k S P x lo u) = 0 := by
  unfold lpk
  cases e : al k S P x lo u 8 with
  | some b => exact ⟨(al_in e).1, (al_in e).2.1⟩
  | none => exact ⟨(pk8_some _ hx hp).2.1, (pk8_some _ hx hp).2.2⟩
theorem cmp_lN {a b : Nat} (ha : a < 2 ^ 63) (hb : b < 2 ^ 63) : (0 ≤ lg_cmp (lN a) (lN b)) ↔ b ≤ a := by rw [lg_cmp_ge, pk_lLE hb ha]
theorem cmp_lN0 {a : Nat} (ha : a < 2 ^ 63) : (lg_cmp (lN a) (0 : Int64) ≤ 0) ↔ a = 0 := by
  rw [lg_cmp_le, lN_00, pk_lLE ha (by decide)]
  omega
theorem mul_lt63 {a b : Nat} (ha : a ≤ 10000000000000000) (hb : b ≤ 600) : a * b < 2 ^ 63 := by
  have := Nat.mul_le_mul ha hb
  omega
