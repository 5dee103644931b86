/-! pure part: numbers, bits, sums -/
theorem ob_sb {α β : Type} (a : α) (f : α → Option β) : (some a).bind f = f a := rfl
theorem ob_inN {i n : Nat} (h : i < n) (hn : n < 2 ^ 31) : ob_in (nI i) n = true := ob_in_iff.mpr (vp_in_nI h hn)
/-- bit c of s, as a number -/
def bt (s c : Nat) : Nat := s / 2 ^ c % 2
theorem bt_lt (s c : Nat) : bt s c < 2 := Nat.mod_lt _ (by decide)
theorem bt_01 (s c : Nat) : bt s c = 0 ∨ bt s c = 1 := by
  have := bt_lt s c
  omega
theorem sh31 : ∀ n, n < 32 → ((nI n &&& 31).toBitVec.smod 32).toNat = n := by decide +kernel
theorem pb_bit {s c : Nat} (hs : s < 2 ^ 31) (hc : c < 31) : (nI s >>> (nI c &&& 31)) &&& (1 : Int32) = nI (bt s c) := by
  rw [pk_shrN hs _ c (sh31 c (by omega))]
  have h := pk_andN (n := s / 2 ^ c) (m := (1 : Int32)) (Nat.lt_of_le_of_lt (Nat.div_le_self s (2 ^ c)) (by omega)) 1 rfl
  rw [h]
  rfl
theorem pb_shl {c : Nat} (hc : c < 31) : (1 : Int32) <<< (nI c &&& 31) = nI (2 ^ c) := by
  have h := pk_shlN (n := 1) (nI c &&& 31) c (sh31 c (by omega)) (by
    have : 2 ^ c ≤ 2 ^ 30 := Nat.pow_le_pow_right (by decide) (by omega)
    omega)
  rw [Nat.one_mul] at h
  exact h
/-- the number of the eight low bits -/
def pc8 (x : Nat) : Nat := bt x 0 + bt x 1 + bt x 2 + bt x 3 + bt x 4 + bt x 5 + bt x 6 + bt x 7
theorem pc8_le (x : Nat) : pc8 x ≤ 8 := by
  unfold pc8
  have h0 := bt_lt x 0
  have h1 := bt_lt x 1
  have h2 := bt_lt x 2
  have h3 := bt_lt x 3
  have h4 := bt_lt x 4
  have h5 := bt_lt x 5
  have h6 := bt_lt x 6
  have h7 := bt_lt x 7
  omega
theorem bitCount_8 : ∀ x, x < 256 → f_J6_bitCount_0f7a4 (nI x) = some (nI (pc8 x)) := by decide +kernel
theorem bits_8 : ∀ x, x < 256 → f_X11_bits (nI x) = some (nI (pc8 x)) := by decide +kernel
theorem and_lt8 {a b : Nat} (ha : a < 256) : a &&& b < 256 := Nat.lt_of_le_of_lt Nat.and_le_left ha
/-- the sum of f over the numbers below n -/
def sm (f : Nat → Nat) : Nat → Nat
  | 0 => 0
  | n + 1 => sm f n + f n
theorem sm_0 (f : Nat → Nat) : sm f 0 = 0 := rfl
theorem sm_s (f : Nat → Nat) (n : Nat) : sm f (n + 1) = sm f n + f n := rfl
theorem sm_cong {f g : Nat → Nat} : ∀ {n : Nat}, (∀ j, j < n → f j = g j) → sm f n = sm g n
  | 0, _ => rfl
  | n + 1, h => by rw [sm_s, sm_s, sm_cong (fun j hj => h j (by omega)), h n (by omega)]
theorem sm_le {f g : Nat → Nat} : ∀ {n : Nat}, (∀ j, j < n → f j ≤ g j) → sm f n ≤ sm g n
  | 0, _ => Nat.le_refl 0
  | n + 1, h => by
    have h1 := sm_le (n := n) (fun j hj => h j (by omega))
    have h2 := h n (by omega)
    rw [sm_s, sm_s]
    omega
theorem sm_mono (f : Nat → Nat) {m n : Nat} (h : m ≤ n) : sm f m ≤ sm f n := by
  induction n with
  | zero =>
    have : m = 0 := by omega
    subst this
    exact Nat.le_refl _
  | succ n ih =>
    rcases Nat.lt_or_ge m (n + 1) with q | q
    · have := ih (by omega)
      rw [sm_s]
      omega
    · have : m = n + 1 := by omega
      subst this
      exact Nat.le_refl _
theorem sm_one (f : Nat → Nat) {j n : Nat} (h : j < n) : f j ≤ sm f n := by
  have h1 := sm_mono f (m := j + 1) (n := n) (by omega)
  rw [sm_s] at h1
  omega
theorem sm_zero {f : Nat → Nat} : ∀ {n : Nat}, (∀ j, j < n → f j = 0) → sm f n = 0
  | 0, _ => rfl
  | n + 1, h => by rw [sm_s, sm_zero (fun j hj => h j (by omega)), h n (by omega)]
theorem sm_mulL (c : Nat) (f : Nat → Nat) : ∀ n, sm (fun j => c * f j) n = c * sm f n
  | 0 => (Nat.mul_zero c).symm
  | n + 1 => by rw [sm_s, sm_s, sm_mulL c f n, Nat.mul_add]
