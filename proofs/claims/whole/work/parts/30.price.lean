/-! SHARE: the class's price -/
abbrev aw (S P : Nat → Nat) (c : Nat) : Nat → Nat := fun j => bt (S j) c * P j
theorem price48_eq {cnt : Int32} {sets papers : Nat → Int32} {k : Nat} {S P : Nat → Nat} (h : hp cnt sets papers k S P) {up : Nat → Int64} {u : Nat → Nat} (hu : upr up 0 u) {c rs py : Nat} (hc : c < 8) (hpy : py ≤ 600) (hub : ∀ j, u j ≤ 10000000000000000) (hrs : rs ≤ 10000000000000000) (y3 : Int32) (y4 : Int64) (y6 : Int32) : lp_X6_price_48 (nI c) y3 y4 y6 cnt (lN rs) (nI py) papers sets up FU (0 : Int64) (0 : Int32) (0 : Int32) = some (lN (gA k (aw S P c) u (gv u rs py)), nI (gB k (aw S P c) (gv u rs py))) := by
  have hb := fun j hj => hp_P h (j := j) hj
  have ht := fun j hj => tells_eq h (j := j) hj hc
  obtain ⟨rfl, hk, hh, -⟩ := h
  have h1 := up0 (k := k) (fun n i => lp_X6_price_48 (nI c) y3 y4 y6 (nI k) (lN rs) (nI py) papers sets up n (lN (gA i (aw S P c) u (gv u rs py))) (nI (gB i (aw S P c) (gv u rs py))) (nI i) = some (lN (gA k (aw S P c) u (gv u rs py)), nI (gB k (aw S P c) (gv u rs py)))) (by omega)
    (fun n => by rw [lp_X6_price_48, if_pos ((nI_le7 hk hk).mpr (Nat.le_refl _))])
    (fun n i hi ih => by
      have hPi := hb i hi
      have e1 := hu i (by omega)
      rw [Nat.zero_add] at e1
      have sA : gA (i + 1) (aw S P c) u (gv u rs py) = gA i (aw S P c) u (gv u rs py) + bt (S i) c * P i * gv u rs py i * u i := rfl
      have sB : gB (i + 1) (aw S P c) (gv u rs py) = gB i (aw S P c) (gv u rs py) + bt (S i) c * P i * gv u rs py i := rfl
      rw [sA, sB] at ih
      rw [lp_X6_price_48, if_neg (by rw [nI_le7 hk (by omega)]; omega), ht i hi, ob_sb]
      rcases bt_01 (S i) c with q | q
      · rw [q, Nat.zero_mul, Nat.zero_mul, Nat.zero_mul, Nat.add_zero, Nat.add_zero] at ih
        rw [q, if_pos (by decide), nI_1]
        exact ih
      · rw [q, Nat.one_mul] at ih
        rw [q, if_neg (by decide)]
        simp (disch := omega) only [ob_inN, nI_clamp, eq_self, if_true, e1, (hh i hi).2.2, nI_l, lN_mul, lN_add, nI_1, nI_add]
        have hcm := cmp_lN (mul_lt63 (hub i) hpy) (show rs < 2 ^ 63 by omega)
        by_cases g : u i * py < rs
        · rw [if_neg (fun z => by have := hcm.mp z; omega)]
          rw [gv_1.mpr g, Nat.mul_one, Nat.mul_comm (P i)] at ih
          exact ih
        · rw [if_pos (hcm.mpr (by omega))]
          have g0 : gv u rs py i = 0 := by unfold gv; rw [if_neg g]
          rw [g0, Nat.mul_zero, Nat.zero_mul, Nat.add_zero, Nat.add_zero] at ih
          exact ih)
  rw [show lp_X6_price_48 (nI c) y3 y4 y6 (nI k) (lN rs) (nI py) papers sets up FU (0 : Int64) (0 : Int32) (0 : Int32) = lp_X6_price_48 (nI c) y3 y4 y6 (nI k) (lN rs) (nI py) papers sets up FU (lN (gA 0 (aw S P c) u (gv u rs py))) (nI (gB 0 (aw S P c) (gv u rs py))) (nI 0) from rfl]
  exact h1
theorem price_eq {cnt : Int32} {sets papers : Nat → Int32} {k : Nat} {S P : Nat → Nat} (h : hp cnt sets papers k S P) {up : Nat → Int64} {u : Nat → Nat} (hu : upr up 0 u) {c lo : Nat} (hc : c < 8) (hub : ∀ j, u j ≤ 10000000000000000) (hlo : sm P k * lo ≤ 10000000000000000) (ht : 0 < tel k S P c) (hC : sm P k * lo ≤ su k S P u c) (r0 : Int64) (p0 : Int32) : f_X6_price (nI c) cnt (lN lo) r0 p0 papers sets up = some (lN (rst k (aw S P c) u (sm P k * lo) 7), nI (pay k (aw S P c) u (sm P k * lo) 7)) := by
  have hT : tel k S P c ≤ 600 := Nat.le_trans (tel_le k S P c) h.2.2.2
  have hP := h.2.2.2
  have hC' : sm P k * lo ≤ sm (fun j => aw S P c j * u j) k := hC
  have ht' : 0 < sm (aw S P c) k := ht
  have hT' : sm (aw S P c) k ≤ 600 := hT
  have h1 := up_ind (k := 7) (Pr := fun n r => lp_X6_price_32 (nI c) (nI (tel k S P c)) (lN (sm P k * lo)) cnt papers sets up (fun q14 => some (q14.1, q14.2)) n (nI r) (lN (rst k (aw S P c) u (sm P k * lo) r)) (nI (pay k (aw S P c) u (sm P k * lo) r)) = some (lN (rst k (aw S P c) u (sm P k * lo) 7), nI (pay k (aw S P c) u (sm P k * lo) 7)))
    (fun n => by rw [lp_X6_price_32, if_pos (by decide)])
    (fun n r hr ih => by
      obtain ⟨p1, p2, p3⟩ := pay_pos hC' ht' r
      obtain ⟨p4, p5, p6⟩ := pay_pos hC' ht' (r + 1)
      obtain ⟨a1, a2, -⟩ := rr_ok hC' ht' (r + 1)
      rw [rr_s] at a1 a2
      rw [lp_X6_price_32, if_neg (by rw [lt6 (by omega)]; omega), price48_eq h hu hc (by omega) hub (by omega), ob_sb]
      have e1 : (lN (sm P k * lo) - lN (gA k (aw S P c) u (gv u (rst k (aw S P c) u (sm P k * lo) r) (pay k (aw S P c) u (sm P k * lo) r)))) = lN (rst k (aw S P c) u (sm P k * lo) (r + 1)) := by
        rw [lN_sub a1]
        rfl
      have e2 : (nI (tel k S P c) - nI (gB k (aw S P c) (gv u (rst k (aw S P c) u (sm P k * lo) r) (pay k (aw S P c) u (sm P k * lo) r)))) = nI (pay k (aw S P c) u (sm P k * lo) (r + 1)) := pk_sub (Nat.le_of_lt a2)
      dsimp only
      rw [e1, e2, nI_1]
      by_cases g : pay k (aw S P c) u (sm P k * lo) (r + 1) = pay k (aw S P c) u (sm P k * lo) r
      · rw [if_pos (by rw [g])]
        obtain ⟨s1, s2, -⟩ := rho_stop hC' ht' g (7 - r)
        rw [show r + (7 - r) = 7 by omega] at s1 s2
        rw [s1, s2]
      · rw [if_neg (by rw [nI_eq (by omega) (by omega)]; exact g)]
        exact ih) FU 0 (by omega) (by unfold FU; omega)
  rw [rst_0, pay_0] at h1
  unfold f_X6_price
  rw [telling_eq h hc, ob_sb, total_eq h, ob_sb, nI_l (by omega), lN_mul]
  exact h1
