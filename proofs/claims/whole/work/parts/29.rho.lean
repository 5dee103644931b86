/-! SHARE: the least RHO, found in rounds -/
theorem sm_add (f g : Nat → Nat) : ∀ n, sm (fun j => f j + g j) n = sm f n + sm g n
  | 0 => rfl
  | n + 1 => by
    have := sm_add f g n
    rw [sm_s, sm_s, sm_s, this]
    omega
theorem sm_eq0 {f : Nat → Nat} : ∀ {n : Nat}, sm f n = 0 → ∀ j, j < n → f j = 0
  | 0, _, j, hj => by omega
  | n + 1, h, j, hj => by
    rw [sm_s] at h
    rcases Nat.lt_or_ge j n with q | q
    · exact sm_eq0 (by omega) j q
    · obtain rfl : j = n := by omega
      omega
def gv (u : Nat → Nat) (r p : Nat) (j : Nat) : Nat := if u j * p < r then 1 else 0
theorem gv_le (u : Nat → Nat) (r p j : Nat) : gv u r p j ≤ 1 := by unfold gv; split <;> omega
theorem gv_1 {u : Nat → Nat} {r p j : Nat} : gv u r p j = 1 ↔ u j * p < r := by
  unfold gv
  split <;> omega
def gA (k : Nat) (a u g : Nat → Nat) : Nat := sm (fun j => a j * g j * u j) k
def gB (k : Nat) (a g : Nat → Nat) : Nat := sm (fun j => a j * g j) k
theorem gB_le (k : Nat) (a g : Nat → Nat) (h : ∀ j, g j ≤ 1) : gB k a g ≤ sm a k := sm_le (fun j _ => by
  have := Nat.mul_le_mul_left (a j) (h j)
  omega)
/-- one round: what the next givers are -/
theorem rho_step {k : Nat} {a u g : Nat → Nat} {C : Nat} (hC : C ≤ sm (fun j => a j * u j) k) (hg : ∀ j, g j ≤ 1) (hA : gA k a u g ≤ C) (hB : gB k a g < sm a k) (hm : ∀ j, j < k → g j = 1 → u j * (sm a k - gB k a g) < C - gA k a u g) :
    gA k a u (gv u (C - gA k a u g) (sm a k - gB k a g)) ≤ C ∧ gB k a (gv u (C - gA k a u g) (sm a k - gB k a g)) < sm a k ∧ (∀ j, j < k → gv u (C - gA k a u g) (sm a k - gB k a g) j = 1 → u j * (sm a k - gB k a (gv u (C - gA k a u g) (sm a k - gB k a g))) < C - gA k a u (gv u (C - gA k a u g) (sm a k - gB k a g))) ∧ (gB k a (gv u (C - gA k a u g) (sm a k - gB k a g)) = gB k a g → gA k a u (gv u (C - gA k a u g) (sm a k - gB k a g)) = gA k a u g) := by
  generalize hr : C - gA k a u g = r at *
  generalize hp : sm a k - gB k a g = p at *
  have hge : ∀ j, j < k → g j ≤ gv u r p j := fun j hj => by
    have h1 := hg j
    rcases Nat.eq_zero_or_pos (g j) with q | q
    · omega
    · have := gv_1.mpr (hm j hj (by omega))
      omega
  have hN : ∀ j, j < k → gv u r p j = g j + (gv u r p j - g j) := fun j hj => by have := hge j hj; omega
  generalize hNe : (fun j => gv u r p j - g j) = N
  have hN' : ∀ j, j < k → gv u r p j = g j + N j := fun j hj => by rw [← hNe]; exact hN j hj
  have hN1 : ∀ j, N j ≤ 1 := fun j => by
    rw [← hNe]
    have := gv_le u r p j
    dsimp only
    omega
  have hNu : ∀ j, N j = 1 → u j * p < r := fun j h => by
    rw [← hNe] at h
    dsimp only at h
    have := gv_le u r p j
    exact gv_1.mp (by omega)
  have eA : gA k a u (gv u r p) = gA k a u g + gA k a u N := by
    unfold gA
    rw [← sm_add]
    exact sm_cong (fun j hj => by rw [hN' j hj, Nat.mul_add, Nat.add_mul])
  have eB : gB k a (gv u r p) = gB k a g + gB k a N := by
    unfold gB
    rw [← sm_add]
    exact sm_cong (fun j hj => by rw [hN' j hj, Nat.mul_add])
  have hB2 := gB_le k a (gv u r p) (gv_le u r p)
  have hp0 : 0 < p := by omega
  have hYp : gB k a N ≤ p := by omega
  -- X p + Y ≤ r Y
  have hXY : p * gA k a u N + gB k a N ≤ r * gB k a N := by
    unfold gA gB
    rw [← sm_mulL, ← sm_mulL, ← sm_add]
    refine sm_le (fun j _ => ?_)
    have h1 := hN1 j
    rcases Nat.eq_zero_or_pos (N j) with q | q
    · rw [q]; simp
    · have q1 : N j = 1 := by omega
      have h2 := hNu j q1
      rw [q1, Nat.mul_one]
      have h3 : a j * (u j * p + 1) ≤ a j * r := Nat.mul_le_mul_left _ h2
      rw [Nat.mul_add, Nat.mul_one] at h3
      have h4 : p * (a j * u j) = a j * (u j * p) := by rw [Nat.mul_comm p, Nat.mul_assoc]
      rw [h4, Nat.mul_comm r]
      exact h3
  have hrY : r * gB k a N ≤ r * p := Nat.mul_le_mul_left r hYp
  have hXr : gA k a u N ≤ r := by
    have h1 : p * gA k a u N ≤ p * r := by rw [Nat.mul_comm p r]; omega
    exact Nat.le_of_mul_le_mul_left h1 hp0
  have hlt : gB k a (gv u r p) < sm a k := by
    rcases Nat.lt_or_ge (gB k a (gv u r p)) (sm a k) with q | q
    · exact q
    · exfalso
      have hYe : gB k a N = p := by omega
      have hall : sm (fun j => a j * u j) k = gA k a u (gv u r p) := by
        unfold gA
        refine sm_cong (fun j hj => ?_)
        have h1 : sm (fun j => a j * (1 - gv u r p j)) k = 0 := by
          have h2 : sm (fun j => a j * gv u r p j + a j * (1 - gv u r p j)) k = sm a k := sm_cong (fun j _ => by
            have := gv_le u r p j
            rw [← Nat.mul_add, show gv u r p j + (1 - gv u r p j) = 1 by omega, Nat.mul_one])
          rw [sm_add] at h2
          unfold gB at q
          omega
        have h3 := sm_eq0 h1 j hj
        have h4 := gv_le u r p j
        rcases Nat.eq_zero_or_pos (gv u r p j) with g0 | g0
        · rw [g0, Nat.sub_zero, Nat.mul_one] at h3
          rw [h3]; simp
        · rw [show gv u r p j = 1 by omega, Nat.mul_one]
      rw [hYe] at hXY
      have h5 : p * (gA k a u N + 1) ≤ p * r := by rw [Nat.mul_add, Nat.mul_one, Nat.mul_comm p r]; exact hXY
      have h6 := Nat.le_of_mul_le_mul_left h5 hp0
      omega
  refine ⟨by omega, hlt, fun j hj hj1 => ?_, fun hBe => ?_⟩
  · have hu := gv_1.mp hj1
    have e1 : C - gA k a u (gv u r p) = r - gA k a u N := by omega
    have e2 : sm a k - gB k a (gv u r p) = p - gB k a N := by omega
    rw [e1, e2]
    have hp2 : 0 < p - gB k a N := by omega
    -- (r - X) p ≥ r (p - Y)
    have hmono : r * (p - gB k a N) ≤ (r - gA k a u N) * p := by
      rw [Nat.mul_sub, Nat.sub_mul]
      have : gA k a u N * p ≤ r * gB k a N := by rw [Nat.mul_comm]; omega
      omega
    rcases Nat.lt_or_ge (u j * (p - gB k a N)) (r - gA k a u N) with q | q
    · exact q
    · exfalso
      have h1 : (r - gA k a u N) * p ≤ (u j * (p - gB k a N)) * p := Nat.mul_le_mul_right p q
      have h2 : (u j * (p - gB k a N)) * p = (u j * p) * (p - gB k a N) := by rw [Nat.mul_assoc, Nat.mul_comm (p - gB k a N), ← Nat.mul_assoc]
      have h3 : (u j * p) * (p - gB k a N) < r * (p - gB k a N) := Nat.mul_lt_mul_of_pos_right hu hp2
      omega
  · have hY0 : gB k a N = 0 := by omega
    rw [hY0, Nat.mul_zero] at hXY
    have h1 : p * gA k a u N = 0 := by omega
    rcases Nat.mul_eq_zero.mp h1 with h2 | h2
    · omega
    · omega
/-- the givers behind each round -/
def rr (k : Nat) (a u : Nat → Nat) (C : Nat) : Nat → (Nat → Nat)
  | 0 => fun _ => 0
  | r + 1 => gv u (C - gA k a u (rr k a u C r)) (sm a k - gB k a (rr k a u C r))
def rst (k : Nat) (a u : Nat → Nat) (C r : Nat) : Nat := C - gA k a u (rr k a u C r)
def pay (k : Nat) (a u : Nat → Nat) (C r : Nat) : Nat := sm a k - gB k a (rr k a u C r)
theorem rr_s (k : Nat) (a u : Nat → Nat) (C r : Nat) : rr k a u C (r + 1) = gv u (rst k a u C r) (pay k a u C r) := rfl
theorem rr_le (k : Nat) (a u : Nat → Nat) (C : Nat) : ∀ r j, rr k a u C r j ≤ 1
  | 0, _ => Nat.zero_le _
  | r + 1, j => gv_le _ _ _ j
theorem gA_0 (k : Nat) (a u : Nat → Nat) : gA k a u (fun _ => 0) = 0 := sm_zero (fun j _ => by simp)
theorem gB_0 (k : Nat) (a : Nat → Nat) : gB k a (fun _ => 0) = 0 := sm_zero (fun j _ => by simp)
theorem rst_0 (k : Nat) (a u : Nat → Nat) (C : Nat) : rst k a u C 0 = C := by
  unfold rst
  rw [show rr k a u C 0 = (fun _ => 0) from rfl, gA_0]
  omega
theorem pay_0 (k : Nat) (a u : Nat → Nat) (C : Nat) : pay k a u C 0 = sm a k := by
  unfold pay
  rw [show rr k a u C 0 = (fun _ => 0) from rfl, gB_0]
  omega
theorem rr_ok {k : Nat} {a u : Nat → Nat} {C : Nat} (hC : C ≤ sm (fun j => a j * u j) k) (ht : 0 < sm a k) : ∀ r, gA k a u (rr k a u C r) ≤ C ∧ gB k a (rr k a u C r) < sm a k ∧ ∀ j, j < k → rr k a u C r j = 1 → u j * pay k a u C r < rst k a u C r
  | 0 => ⟨by rw [show rr k a u C 0 = (fun _ => 0) from rfl, gA_0]; omega, by rw [show rr k a u C 0 = (fun _ => 0) from rfl, gB_0]; exact ht, fun j _ h => by cases h⟩
  | r + 1 => by
    obtain ⟨h1, h2, h3⟩ := rr_ok hC ht r
    obtain ⟨g1, g2, g3, -⟩ := rho_step hC (rr_le k a u C r) h1 h2 h3
    exact ⟨g1, g2, g3⟩
theorem rr_up {k : Nat} {a u : Nat → Nat} {C : Nat} (hC : C ≤ sm (fun j => a j * u j) k) (ht : 0 < sm a k) (r : Nat) {j : Nat} (hj : j < k) (h : rr k a u C r j = 1) : rr k a u C (r + 1) j = 1 := by
  rw [rr_s]
  exact gv_1.mpr ((rr_ok hC ht r).2.2 j hj h)
theorem pay_pos {k : Nat} {a u : Nat → Nat} {C : Nat} (hC : C ≤ sm (fun j => a j * u j) k) (ht : 0 < sm a k) (r : Nat) : 0 < pay k a u C r ∧ pay k a u C r ≤ sm a k ∧ rst k a u C r ≤ C := by
  have := (rr_ok hC ht r).2.1
  unfold pay rst
  omega
theorem rho_stop1 {k : Nat} {a u : Nat → Nat} {C : Nat} (hC : C ≤ sm (fun j => a j * u j) k) (ht : 0 < sm a k) {r : Nat} (h : pay k a u C (r + 1) = pay k a u C r) : rst k a u C (r + 1) = rst k a u C r := by
  obtain ⟨h1, h2, h3⟩ := rr_ok hC ht r
  obtain ⟨g1, g2, g3, g4⟩ := rho_step hC (rr_le k a u C r) h1 h2 h3
  have h5 := (rr_ok hC ht (r + 1)).2.1
  have h6 : gA k a u (rr k a u C (r + 1)) = gA k a u (rr k a u C r) := g4 (by
    unfold pay at h
    rw [rr_s] at h h5
    unfold pay rst at h h5
    omega)
  unfold rst
  rw [h6]
theorem rho_stop {k : Nat} {a u : Nat → Nat} {C : Nat} (hC : C ≤ sm (fun j => a j * u j) k) (ht : 0 < sm a k) {r : Nat} (h : pay k a u C (r + 1) = pay k a u C r) : ∀ n, pay k a u C (r + n) = pay k a u C r ∧ rst k a u C (r + n) = rst k a u C r ∧ pay k a u C (r + n + 1) = pay k a u C r
  | 0 => ⟨rfl, rfl, h⟩
  | n + 1 => by
    obtain ⟨h1, h2, h3⟩ := rho_stop hC ht h n
    have h4 : pay k a u C (r + n + 1) = pay k a u C (r + n) := by rw [h3, h1]
    have h5 := rho_stop1 hC ht h4
    refine ⟨h3, by rw [← Nat.add_assoc, h5, h2], ?_⟩
    have h6 : rr k a u C (r + n + 1 + 1) = rr k a u C (r + n + 1) := by rw [rr_s, rr_s, h5, h4]
    have h7 : pay k a u C (r + n + 1 + 1) = pay k a u C (r + n + 1) := by unfold pay; rw [h6]
    rw [← Nat.add_assoc, h7, h3]
