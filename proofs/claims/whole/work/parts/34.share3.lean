/-! SHARE: what is left behind a choice; the steps -/
theorem widen6_eq {up : Nat → Int64} {u : Nat → Nat} (hu : upr up 0 u) {lo t : Nat} (ht : t ≤ 600) : ∃ up2, f_X1_widen_X6 (nI t) (lN lo) up = some (lN (lo * t), up2) ∧ upr up2 0 (fun j => u j * t) := by
  have h1 := up0 (k := 7) (fun n i => ∀ up : Nat → Int64, (∀ j, j < i → up j = lN (u j * t)) → (∀ j, i ≤ j → j < 7 → up j = lN (u j)) → ∃ up2, lp_X1_widen_X6_2 (nI t) n (nI i) up = some up2 ∧ upr up2 0 (fun j => u j * t)) (by omega)
    (fun n up a1 _ => ⟨up, by rw [lp_X1_widen_X6_2, if_pos (by decide)], fun j hj => by rw [Nat.zero_add]; exact a1 j hj⟩)
    (fun n i hi ih up a1 a2 => by
      obtain ⟨up2, e1, e2⟩ := ih (vp_updL up i (lN (u i * t))) (fun j hj => by
        rcases Nat.lt_or_ge j i with q | q
        · rw [pk_uLn (by omega), a1 j q]
        · obtain rfl : j = i := by omega
          rw [pk_uLs]) (fun j h1 h2 => by rw [pk_uLn (by omega), a2 j (by omega) h2])
      refine ⟨up2, ?_, e2⟩
      rw [lp_X1_widen_X6_2, if_neg (by rw [lt6 (by omega)]; omega)]
      simp (disch := omega) only [ob_inN, nI_clamp, eq_self, if_true, a2 i (Nat.le_refl _) hi, nI_l, lN_mul, nI_1]
      exact e1)
  obtain ⟨up2, e1, e2⟩ := h1 up (fun j hj => by omega) (fun j _ hj => by have := hu j hj; rw [Nat.zero_add] at this; exact this)
  refine ⟨up2, ?_, e2⟩
  unfold f_X1_widen_X6
  rw [nI_0', e1, ob_sb, nI_l (by omega), lN_mul]
theorem begin6_eq {s : Nat} (hs : s ≤ 4) (up : Nat → Int64) (lo : Int64) : ∃ up2, f_X1_begin_X6 (nI s) lo up = some (lN 1, up2) ∧ upr up2 0 (fun _ => s) := by
  have h1 := up0 (k := 7) (fun n i => ∀ up : Nat → Int64, (∀ j, j < i → up j = lN s) → ∃ up2, lp_X1_begin_X6_2 (nI s) n (nI i) up = some up2 ∧ upr up2 0 (fun _ => s)) (by omega)
    (fun n up a1 => ⟨up, by rw [lp_X1_begin_X6_2, if_pos (by decide)], fun j hj => by rw [Nat.zero_add]; exact a1 j hj⟩)
    (fun n i hi ih up a1 => by
      obtain ⟨up2, e1, e2⟩ := ih (vp_updL up i (lN s)) (fun j hj => by
        rcases Nat.lt_or_ge j i with q | q
        · rw [pk_uLn (by omega), a1 j q]
        · obtain rfl : j = i := by omega
          rw [pk_uLs])
      refine ⟨up2, ?_, e2⟩
      rw [lp_X1_begin_X6_2, if_neg (by rw [lt6 (by omega)]; omega)]
      simp (disch := omega) only [ob_inN, nI_clamp, eq_self, if_true, nI_l, nI_1]
      exact e1)
  obtain ⟨up2, e1, e2⟩ := h1 up (fun j hj => by omega)
  refine ⟨up2, ?_, e2⟩
  unfold f_X1_begin_X6
  rw [show lp_X1_begin_X6_2 (nI s) FU (0 : Int32) up = some up2 from e1]
  rfl
/-- a difference of longs, told by its sign -/
theorem lN_neg {a b : Nat} (ha : a < 2 ^ 62) (hb : b < 2 ^ 62) : (lN a - lN b < (0 : Int64)) ↔ a < b := by
  rw [fa_lt64, fb_subL (by rw [pk_lT (by omega), pk_lT (by omega)]; omega) (by rw [pk_lT (by omega), pk_lT (by omega)]; omega), pk_lT (by omega), pk_lT (by omega)]
  have : (0 : Int64).toInt = 0 := by decide
  omega
theorem max0 {a b : Nat} (ha : a < 2 ^ 62) (hb : b < 2 ^ 62) : (if lN a - lN b < (0 : Int64) then (0 : Int64) else lN a - lN b) = lN (a - b) := by
  by_cases q : a < b
  · rw [if_pos ((lN_neg ha hb).mpr q), show a - b = 0 by omega]
    rfl
  · rw [if_neg (fun z => q ((lN_neg ha hb).mp z)), lN_sub (by omega)]
theorem max0m {a b : Nat} (ha : a < 2 ^ 62) (hb : b < 2 ^ 62) : (0 ≤ lg_cmp (lN a - lN b) (0 : Int64)) ↔ b ≤ a := by
  rw [lg_cmp_ge]
  have := lN_neg ha hb
  rw [fa_lt64] at this
  rw [fa_le64]
  omega
def pu (k : Nat) (S : Nat → Nat) (u : Nat → Nat) (r p b : Nat) : Nat → Nat := fun j => if j < k ∧ bt (S j) b = 1 then u j * p - r else u j * p
theorem pay_eq {cnt : Int32} {sets papers : Nat → Int32} {k : Nat} {S P : Nat → Nat} (h : hp cnt sets papers k S P) {up : Nat → Int64} {u : Nat → Nat} (hu : upr up 0 u) {b lo : Nat} (hb : b < 8) (hub : ∀ j, u j ≤ 10000000000000) (hlo : sm P k * lo ≤ 10000000000000000) (ha : af k S P lo u b) (r0 : Int64) (p0 : Int32) : ∃ r1 p1 up2, f_X6_pay (nI b) cnt (lN lo) r0 p0 papers sets up = some (lN (lo * pys k S P lo u b), r1, p1, up2) ∧ upr up2 0 (pu k S u (rho k S P lo u b) (pys k S P lo u b) b) := by
  obtain ⟨b1, b2, b3⟩ := rho_b h ha
  obtain ⟨up1, a1, a2⟩ := widen6_eq hu (lo := lo) b2
  unfold f_X6_pay
  rw [price_eq h hu hb (fun j => Nat.le_trans (hub j) (by decide)) hlo ha.1 ha.2, ob_sb, a1, ob_sb]
  dsimp only
  have ht := fun j hj => tells_eq h (j := j) hj hb
  obtain ⟨rfl, hk, hh, -⟩ := h
  generalize hR : rho k S P lo u b = R at *
  generalize hY : pys k S P lo u b = Y at *
  have hup : ∀ j, u j * Y < 2 ^ 62 := fun j => by
    have := Nat.mul_le_mul (hub j) b2
    omega
  have h1 := up0 (k := k) (fun n i => ∀ up : Nat → Int64, (∀ j, j < 7 → up j = lN (if j < i ∧ bt (S j) b = 1 then u j * Y - R else u j * Y)) → ∃ up2, lp_X6_pay_16 (nI b) (nI k) (lN R) sets n (nI i) up = some up2 ∧ ∀ j, j < 7 → up2 j = lN (if j < k ∧ bt (S j) b = 1 then u j * Y - R else u j * Y)) (by omega)
    (fun n up c1 => ⟨up, by rw [lp_X6_pay_16, if_pos ((nI_le7 hk hk).mpr (Nat.le_refl _))], c1⟩)
    (fun n i hi ih up c1 => by
      have ci := c1 i (by omega)
      rw [if_neg (fun z => by omega)] at ci
      rw [lp_X6_pay_16, if_neg (by rw [nI_le7 hk (by omega)]; omega), ht i hi, ob_sb]
      rcases bt_01 (S i) b with q | q
      · rw [q, if_pos (by decide), nI_1]
        refine ih up (fun j hj => ?_)
        rw [c1 j hj]
        by_cases g2 : bt (S j) b = 1
        · by_cases g3 : j < i
          · rw [if_pos ⟨g3, g2⟩, if_pos ⟨by omega, g2⟩]
          · rw [if_neg (fun z => g3 z.1), if_neg (fun z => by
              obtain rfl : j = i := by omega
              omega)]
        · rw [if_neg (fun z => g2 z.2), if_neg (fun z => g2 z.2)]
      · rw [q, if_neg (by decide)]
        simp (disch := omega) only [ob_inN, nI_clamp, eq_self, if_true, nI_1, ci]
        rw [max0 (hup i) (by omega)]
        refine ih _ (fun j hj => ?_)
        by_cases g : j = i
        · subst g
          rw [pk_uLs, if_pos ⟨by omega, q⟩]
        · rw [pk_uLn g, c1 j hj]
          by_cases g2 : bt (S j) b = 1
          · by_cases g3 : j < i
            · rw [if_pos ⟨g3, g2⟩, if_pos ⟨by omega, g2⟩]
            · rw [if_neg (fun z => g3 z.1), if_neg (fun z => by omega)]
          · rw [if_neg (fun z => g2 z.2), if_neg (fun z => g2 z.2)])
  obtain ⟨up2, e1, e2⟩ := h1 up1 (fun j hj => by
    have := a2 j hj
    rw [Nat.zero_add] at this
    rw [this, if_neg (fun z => by omega)])
  refine ⟨lN R, nI Y, up2, ?_, fun j hj => ?_⟩
  · have hR2 : rst k (aw S P b) u (sm P k * lo) 7 = R := hR
    have hY2 : pay k (aw S P b) u (sm P k * lo) 7 = Y := hY
    rw [hR2, hY2, show lp_X6_pay_16 (nI b) (nI k) (lN R) sets FU (0 : Int32) up1 = some up2 from e1]
    rfl
  · rw [Nat.zero_add, e2 j hj]
    rfl
theorem share88_eq {cnt : Int32} {sets papers : Nat → Int32} {k : Nat} {S P : Nat → Nat} (h : hp cnt sets papers k S P) {up : Nat → Int64} {v : Nat → Nat} {r b R : Nat} (hr : r ≤ 3) (hb : b < 8) (hu : upr up (7 * (r + 1)) v) (hv : ∀ j, v j < 2 ^ 62) (hR : R < 2 ^ 62) : ∃ up2, lp_X11_share_88 (nI r) (nI b) (lN R) cnt sets FU (0 : Int32) up = some up2 ∧ upr up2 (7 * (r + 1)) (fun j => if j < k ∧ bt (S j) b = 1 then v j - R else v j) ∧ ∀ i, i < 7 * (r + 1) → up2 i = up i := by
  obtain ⟨rfl, hk, hh, -⟩ := h
  have h1 := up0 (k := k) (fun n i => ∀ up1 : Nat → Int64, (∀ j, j < 7 → up1 (7 * (r + 1) + j) = lN (if j < i ∧ bt (S j) b = 1 then v j - R else v j)) → (∀ j, j < 7 * (r + 1) → up1 j = up j) → ∃ up2, lp_X11_share_88 (nI r) (nI b) (lN R) (nI k) sets n (nI i) up1 = some up2 ∧ upr up2 (7 * (r + 1)) (fun j => if j < k ∧ bt (S j) b = 1 then v j - R else v j) ∧ ∀ i, i < 7 * (r + 1) → up2 i = up i) (by omega)
    (fun n up1 a1 a2 => ⟨up1, by rw [lp_X11_share_88, if_pos ((nI_le7 hk hk).mpr (Nat.le_refl _))], a1, a2⟩)
    (fun n i hi ih up1 a1 a2 => by
      obtain ⟨e1, e2, e3⟩ := hh i hi
      have ci := a1 i (by omega)
      rw [if_neg (fun z => by omega)] at ci
      rw [lp_X11_share_88, if_neg (by rw [nI_le7 hk (by omega)]; omega), if_neg (nI_nneg (by omega)), nI_1, nI_1, row_ix]
      simp (disch := omega) only [ob_inN, nI_clamp, eq_self, if_true, e1, pb_bit, ci, max0m (hv i) hR]
      have step : ∀ j, j < 7 → vp_updL up1 (7 * (r + 1) + i) (lN (v i - R)) (7 * (r + 1) + j) = lN (if j < i + 1 ∧ bt (S j) b = 1 then v j - R else v j) ∨ bt (S i) b = 0 := fun j hj => by
        rcases bt_01 (S i) b with q | q
        · exact Or.inr q
        · left
          by_cases g : j = i
          · subst g
            rw [pk_uLs, if_pos ⟨by omega, q⟩]
          · rw [pk_uLn (by omega), a1 j hj]
            by_cases g2 : bt (S j) b = 1
            · by_cases g3 : j < i
              · rw [if_pos ⟨g3, g2⟩, if_pos ⟨by omega, g2⟩]
              · rw [if_neg (fun z => g3 z.1), if_neg (fun z => by omega)]
            · rw [if_neg (fun z => g2 z.2), if_neg (fun z => g2 z.2)]
      rcases bt_01 (S i) b with q | q
      · rw [q, if_neg (by decide)]
        refine ih _ (fun j hj => ?_) a2
        rw [a1 j hj]
        by_cases g2 : bt (S j) b = 1
        · by_cases g3 : j < i
          · rw [if_pos ⟨g3, g2⟩, if_pos ⟨by omega, g2⟩]
          · rw [if_neg (fun z => g3 z.1), if_neg (fun z => by
              obtain rfl : j = i := by omega
              omega)]
        · rw [if_neg (fun z => g2 z.2), if_neg (fun z => g2 z.2)]
      · rw [q, if_pos (by decide)]
        have st : ∀ j, j < 7 → vp_updL up1 (7 * (r + 1) + i) (lN (v i - R)) (7 * (r + 1) + j) = lN (if j < i + 1 ∧ bt (S j) b = 1 then v j - R else v j) := fun j hj => by
          rcases step j hj with h | h
          · exact h
          · omega
        have a2' : ∀ j, j < 7 * (r + 1) → vp_updL up1 (7 * (r + 1) + i) (lN (v i - R)) j = up j := fun j hj => by rw [pk_uLn (by omega), a2 j hj]
        by_cases g : R ≤ v i
        · rw [if_pos g, lN_sub g]
          exact ih _ st a2'
        · rw [if_neg g, show (0 : Int64) = lN (v i - R) by rw [show v i - R = 0 by omega]; rfl]
          exact ih _ st a2')
  obtain ⟨up2, e1, e2, e3⟩ := h1 up (fun j hj => by rw [hu j hj, if_neg (fun z => by omega)]) (fun j _ => rfl)
  exact ⟨up2, e1, e2, e3⟩
theorem share88_no (cnt : Int32) (sets : Nat → Int32) (y1 : Int32) (y3 : Int64) (up : Nat → Int64) : lp_X11_share_88 y1 (-6 : Int32) y3 cnt sets FU (0 : Int32) up = some up := by
  show lp_X11_share_88 y1 (-6 : Int32) y3 cnt sets (299 + 1) (0 : Int32) up = some up
  rw [lp_X11_share_88, if_pos nI_6neg]
  split <;> rfl
