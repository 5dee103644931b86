/-! lowest terms -/
theorem half_mod {b r : Nat} (hr : r < b) (h0 : 0 < r) : 2 * (b % r) < b := by
  have h1 := Nat.mod_lt b h0
  rcases Nat.lt_or_ge b (2 * r) with q | q
  · have : b % r = b - r := by
      rw [Nat.mod_eq_sub_mod (by omega), Nat.mod_eq_of_lt (by omega)]
    omega
  · omega
theorem cmp_0 {b : Nat} (hb : b < 2 ^ 63) : lg_cmp (lN b) (0 : Int64) = 0 ↔ b = 0 := by
  rw [lg_cmp_eq, lN_00, pk_lEQ hb (by decide)]
theorem lN_z {b : Nat} (hb : b < 2 ^ 63) : lN b = 0 ↔ b = 0 := by rw [lN_00, pk_lEQ hb (by decide)]
theorem gcd_step {a b : Nat} : Nat.gcd b (a % b) = Nat.gcd a b := by rw [Nat.gcd_comm a b, Nat.gcd_rec b a, Nat.gcd_comm]
theorem div_lp : ∀ (t a b i n : Nat), a < 2 ^ 63 → b < 2 ^ 63 → b < 2 ^ t → i + 2 * t ≤ 100 → 2 * t + 1 ≤ n → lp_X1_commonDivisor_3 n (lN a) (lN b) (nI i) = some (lN (Nat.gcd a b)) := by
  intro t
  induction t with
  | zero =>
    intro a b i n ha hb h1 h2 h3
    obtain ⟨n, rfl⟩ : ∃ m, n = m + 1 := ⟨n - 1, by omega⟩
    obtain rfl : b = 0 := by
      rw [Nat.pow_zero] at h1
      omega
    rw [lp_X1_commonDivisor_3, Nat.gcd_zero_right, if_pos ((cmp_0 (by decide)).mpr rfl)]
    split <;> rfl
  | succ t ih =>
    intro a b i n ha hb h1 h2 h3
    obtain ⟨n, rfl⟩ : ∃ m, n = m + 2 := ⟨n - 2, by omega⟩
    have h100 : ∀ j, j < 100 → ¬ (100 : Int32) ≤ nI j := fun j hj => by rw [show (100 : Int32) = nI 100 from rfl, nI_leI (by omega) (by omega)]; omega
    rw [lp_X1_commonDivisor_3, if_neg (h100 i (by omega))]
    rcases Nat.eq_zero_or_pos b with q | q
    · subst q
      rw [if_pos ((cmp_0 (by decide)).mpr rfl), Nat.gcd_zero_right]
    · rw [if_neg (fun z => by have := (cmp_0 hb).mp z; omega), if_neg (fun z => by have := (lN_z hb).mp z; omega), pk_lRem ha q hb, nI_1]
      have hm := Nat.mod_lt a q
      rw [lp_X1_commonDivisor_3, if_neg (h100 (i + 1) (by omega))]
      rcases Nat.eq_zero_or_pos (a % b) with q2 | q2
      · rw [q2, if_pos ((cmp_0 (by decide)).mpr rfl), ← gcd_step, q2, Nat.gcd_zero_right]
      · rw [if_neg (fun z => by have := (cmp_0 (by omega)).mp z; omega), if_neg (fun z => by have := (lN_z (by omega)).mp z; omega), pk_lRem hb q2 (by omega), nI_1]
        have hh := half_mod hm q2
        rw [ih (a % b) (b % (a % b)) (i + 1 + 1) n (by omega) (by omega) (by rw [Nat.pow_succ] at h1; omega) (by omega) (by omega), gcd_step, gcd_step]
theorem term_lp (y0 y2 : Int64) (y4 : Int32) : ∀ (t a b n : Nat), a < 2 ^ 63 → b < 2 ^ 63 → b < 2 ^ t → 2 * t + 1 ≤ n → lp_X11_term_6 y0 y2 y4 n (lN a) (lN b) = some (lN (Nat.gcd a b)) := by
  intro t
  induction t with
  | zero =>
    intro a b n ha hb h1 h3
    obtain ⟨n, rfl⟩ : ∃ m, n = m + 1 := ⟨n - 1, by omega⟩
    obtain rfl : b = 0 := by
      rw [Nat.pow_zero] at h1
      omega
    rw [lp_X11_term_6, Nat.gcd_zero_right, if_pos ((cmp_0 (by decide)).mpr rfl)]
  | succ t ih =>
    intro a b n ha hb h1 h3
    obtain ⟨n, rfl⟩ : ∃ m, n = m + 2 := ⟨n - 2, by omega⟩
    rw [lp_X11_term_6]
    rcases Nat.eq_zero_or_pos b with q | q
    · subst q
      rw [if_pos ((cmp_0 (by decide)).mpr rfl), Nat.gcd_zero_right]
    · rw [if_neg (fun z => by have := (cmp_0 hb).mp z; omega), if_neg (fun z => by have := (lN_z hb).mp z; omega), pk_lRem ha q hb]
      have hm := Nat.mod_lt a q
      rw [lp_X11_term_6]
      rcases Nat.eq_zero_or_pos (a % b) with q2 | q2
      · rw [q2, if_pos ((cmp_0 (by decide)).mpr rfl), ← gcd_step, q2, Nat.gcd_zero_right]
      · rw [if_neg (fun z => by have := (cmp_0 (by omega)).mp z; omega), if_neg (fun z => by have := (lN_z (by omega)).mp z; omega), pk_lRem hb q2 (by omega)]
        have hh := half_mod hm q2
        rw [ih (a % b) (b % (a % b)) n (by omega) (by omega) (by rw [Nat.pow_succ] at h1; omega) (by omega), gcd_step, gcd_step]
/-- a fraction in lowest terms, both sides -/
theorem term_eq {a b : Nat} (ha : a ≤ 1000000000000) (hb : b ≤ 1000000000000) (h0 : 0 < b) (part : Int32) : f_X11_term (lN a) (lN b) part = some (if part = 0 then lN (a / Nat.gcd a b) else lN (b / Nat.gcd a b)) := by
  have hg : 0 < Nat.gcd a b := Nat.gcd_pos_of_pos_right a h0
  have hgb : Nat.gcd a b ≤ b := Nat.gcd_le_right a h0
  unfold f_X11_term
  have z1 : ¬ lN (Nat.gcd a b) = 0 := fun z => by have := (lN_z (b := Nat.gcd a b) (by omega)).mp z; omega
  rw [term_lp _ _ _ 40 a b FU (by omega) (by omega) (by omega) (by unfold FU; omega), ob_sb, if_neg z1, if_neg z1, pk_lDiv (a := a) (by omega) hg (by omega), pk_lDiv (a := b) (by omega) hg (by omega)]
  by_cases q : part = 0
  · rw [if_pos q, if_pos q]
  · rw [if_neg q, if_neg q]
theorem lowest5_eq {up : Nat → Int64} {u : Nat → Nat} (hu : upr up 0 u) {lo j : Nat} (hj : j < 7) (ha : u j ≤ 1000000000000) (hb : lo ≤ 1000000000000) (h0 : 0 < lo) (part : Int32) : f_X1_lowest_X5 (nI j) part (lN lo) up = some (if part = 0 then lN (u j / Nat.gcd (u j) lo) else lN (lo / Nat.gcd (u j) lo)) := by
  have e1 := hu j hj
  rw [Nat.zero_add] at e1
  have hg : 0 < Nat.gcd lo (u j) := Nat.gcd_pos_of_pos_left _ h0
  have hgb : Nat.gcd lo (u j) ≤ lo := Nat.gcd_le_left _ h0
  have hcd : f_X1_commonDivisor (lN lo) (lN (u j)) = some (lN (Nat.gcd lo (u j))) := by
    unfold f_X1_commonDivisor
    exact bind_id (div_lp 40 lo (u j) 0 FU (by omega) (by omega) (by omega) (by omega) (by unfold FU; omega))
  have z1 : ¬ lN (Nat.gcd lo (u j)) = 0 := fun z => by have := (lN_z (b := Nat.gcd lo (u j)) (by omega)).mp z; omega
  have z2 : ¬ lg_cmp (lN (Nat.gcd lo (u j))) (0 : Int64) = 0 := fun z => by have := (cmp_0 (b := Nat.gcd lo (u j)) (by omega)).mp z; omega
  unfold f_X1_lowest_X5
  rw [if_neg (nI_nneg (by omega)), if_pos (by rw [show (6 : Int32) = nI 6 from rfl, nI_leI (by omega) (by omega)]; omega), if_pos (ob_inN hj (by decide)), nI_clamp (by omega), e1, hcd, ob_sb, if_pos (ob_inN hj (by decide)), ob_sb, if_neg z2, if_neg z2, if_neg z1, if_neg z1, pk_lDiv (a := u j) (by omega) hg (by omega), pk_lDiv (a := lo) (by omega) hg (by omega), Nat.gcd_comm lo]
  by_cases q : part = 0
  · rw [if_pos q, if_pos q]
  · rw [if_neg q, if_neg q, if_pos (ob_inN hj (by decide))]
theorem lowest6_eq {up : Nat → Int64} {u : Nat → Nat} (hu : upr up 0 u) {lo j : Nat} (hj : j < 7) (ha : u j ≤ 1000000000000) (hb : lo ≤ 1000000000000) (h0 : 0 < lo) (part : Int32) : f_X1_lowest_X6 (nI j) part (lN lo) up = some (if part = 0 then lN (u j / Nat.gcd (u j) lo) else lN (lo / Nat.gcd (u j) lo)) := lowest5_eq hu hj ha hb h0 part
