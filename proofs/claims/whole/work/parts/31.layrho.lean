/-! SHARE: the reference's RHO -/
theorem rho19_eq {cnt : Int32} {sets papers : Nat → Int32} {k : Nat} {S P : Nat → Nat} (h : hp cnt sets papers k S P) {up : Nat → Int64} {u : Nat → Nat} {r : Nat} (hr : r ≤ 4) (hu : upr up (7 * r) u) {c : Nat} (hc : c < 8) (y3 : Int64) : lp_X11_layRho_19 (nI r) (nI c) y3 cnt papers sets up FU (0 : Int64) (0 : Int32) = some (lN (su k S P u c)) := by
  have hb := fun j hj => hp_P h (j := j) hj
  obtain ⟨rfl, hk, hh, -⟩ := h
  have h1 := up0 (k := k) (fun n i => lp_X11_layRho_19 (nI r) (nI c) y3 (nI k) papers sets up n (lN (su i S P u c)) (nI i) = some (lN (su k S P u c))) (by omega)
    (fun n => by rw [lp_X11_layRho_19, if_pos ((nI_le7 hk hk).mpr (Nat.le_refl _))])
    (fun n i hi ih => by
      obtain ⟨e1, e2, e3⟩ := hh i hi
      have hPi := btP_lt (s := S i) (c := c) (hb i hi)
      have hs : su (i + 1) S P u c = su i S P u c + bt (S i) c * P i * u i := rfl
      rw [hs] at ih
      have e4 := hu i (by omega)
      rw [lp_X11_layRho_19, if_neg (by rw [nI_le7 hk (by omega)]; omega)]
      simp (disch := omega) only [row_ix, ob_inN, nI_clamp, eq_self, if_true, e1, e3, e4, pb_bit, pk_mul, nI_l, lN_mul, lN_add, nI_1, ob_let_eq]
      exact ih)
  exact h1
/-- a mask says who gives: bit j, for the heaps that tell -/
def mks (y : Nat) (k : Nat) (S : Nat → Nat) (c : Nat) (g : Nat → Nat) : Prop := y < 128 ∧ ∀ j, j < k → bt y j = bt (S j) c * g j
theorem lN_s0 (x : Int64) : x - (0 : Int64) = x := by rw [Int64.sub_zero]
theorem lN_a0 (x : Int64) : x + (0 : Int64) = x := by rw [Int64.add_zero]
theorem rho113_eq {cnt : Int32} {sets papers : Nat → Int32} {k : Nat} {S P : Nat → Nat} (h : hp cnt sets papers k S P) {up : Nat → Int64} {u : Nat → Nat} {r : Nat} (hr : r ≤ 4) (hu : upr up (7 * r) u) {c y C : Nat} (hc : c < 8) {g : Nat → Nat} (hg : ∀ j, g j ≤ 1) (hy : mks y k S c g) (hA : gA k (aw S P c) u g ≤ C) : lp_X11_layRho_113 (nI r) (nI c) (lN C) (nI y) cnt papers sets up FU (0 : Int32) (lN C) (0 : Int64) = some (lN (C - gA k (aw S P c) u g), lN (tel k S P c - gB k (aw S P c) g)) := by
  have hb := fun j hj => hp_P h (j := j) hj
  obtain ⟨rfl, hk, hh, -⟩ := h
  obtain ⟨hy1, hy2⟩ := hy
  have h1 := up0 (k := k) (fun n i => lp_X11_layRho_113 (nI r) (nI c) (lN C) (nI y) (nI k) papers sets up n (nI i) (lN (C - gA i (aw S P c) u g)) (lN (tel i S P c - gB i (aw S P c) g)) = some (lN (C - gA k (aw S P c) u g), lN (tel k S P c - gB k (aw S P c) g))) (by omega)
    (fun n => by rw [lp_X11_layRho_113, if_pos ((nI_le7 hk hk).mpr (Nat.le_refl _))])
    (fun n i hi ih => by
      obtain ⟨e1, e2, e3⟩ := hh i hi
      have hPi := hb i hi
      have e4 := hu i (by omega)
      have e5 := hy2 i hi
      have sA : gA (i + 1) (aw S P c) u g = gA i (aw S P c) u g + bt (S i) c * P i * g i * u i := rfl
      have sB : gB (i + 1) (aw S P c) g = gB i (aw S P c) g + bt (S i) c * P i * g i := rfl
      have sT : tel (i + 1) S P c = tel i S P c + bt (S i) c * P i := rfl
      have hAi : gA (i + 1) (aw S P c) u g ≤ C := Nat.le_trans (sm_mono _ (by omega)) hA
      have hBi : gB i (aw S P c) g ≤ tel i S P c := gB_le i (aw S P c) g hg
      rw [sA] at hAi
      rw [sA, sB, sT] at ih
      rw [lp_X11_layRho_113, if_neg (by rw [nI_le7 hk (by omega)]; omega)]
      simp (disch := omega) only [row_ix, ob_inN, nI_clamp, eq_self, if_true, e1, e3, e4, pb_bit, nI_l, nI_1, lN_s0, lN_a0, lN_mul]
      have hgi := hg i
      rcases bt_01 (S i) c with q | q
      · rw [q, Nat.zero_mul, Nat.zero_mul, Nat.zero_mul, Nat.add_zero, Nat.add_zero, Nat.add_zero] at ih
        rw [q, if_neg (by decide)]
        split <;> exact ih
      · rw [q, Nat.one_mul] at ih e5 hAi
        rw [q, if_pos (by decide), e5]
        rcases Nat.eq_zero_or_pos (g i) with g0 | g0
        · rw [g0, Nat.mul_zero, Nat.zero_mul, Nat.add_zero, Nat.add_zero] at ih
          rw [g0, if_neg (by decide), lN_add, show tel i S P c - gB i (aw S P c) g + P i = tel i S P c + P i - gB i (aw S P c) g by omega]
          exact ih
        · have g1 : g i = 1 := by omega
          rw [g1, Nat.mul_one] at ih hAi
          rw [g1, if_pos (by decide), lN_sub (by omega), show C - gA i (aw S P c) u g - P i * u i = C - (gA i (aw S P c) u g + P i * u i) by omega]
          rw [show tel i S P c + P i - (gB i (aw S P c) g + P i) = tel i S P c - gB i (aw S P c) g by omega] at ih
          exact ih)
  rw [show gA 0 (aw S P c) u g = 0 from rfl, show gB 0 (aw S P c) g = 0 from rfl] at h1
  exact h1
theorem bt_or7 : ∀ y, y < 128 → ∀ i, i < 7 → ∀ j, j < 7 → bt (y ||| 2 ^ i) j = if j = i then 1 else bt y j := by decide +kernel
theorem or_pow7 : ∀ y, y < 128 → ∀ i, i < 7 → y ||| 2 ^ i < 128 := by decide +kernel
theorem pc8_or7 : ∀ y, y < 128 → ∀ i, i < 7 → bt y i = 0 → pc8 (y ||| 2 ^ i) = pc8 y + 1 := by decide +kernel
theorem pc8_7 : ∀ y, y < 128 → pc8 y ≤ 7 := by decide +kernel
theorem pb_or7 {x c : Nat} (hc : c < 7) : nI x ||| ((1 : Int32) <<< (nI c &&& 31)) = nI (x ||| 2 ^ c) := by rw [pb_shl (by omega), fa_or]
/-- the round's second half: who joins the givers, and whether anyone does -/
theorem rho249_eq {cnt : Int32} {sets papers : Nat → Int32} {k : Nat} {S P : Nat → Nat} (h : hp cnt sets papers k S P) {up : Nat → Int64} {u : Nat → Nat} {r : Nat} (hr : r ≤ 4) (hu : upr up (7 * r) u) {c y rs py : Nat} (hc : c < 8) (hpy : py ≤ 600) (hub : ∀ j, u j ≤ 10000000000000000) (hrs : rs ≤ 10000000000000000) {g : Nat → Nat} (hg : ∀ j, g j ≤ 1) (hy : mks y k S c g) (hup : ∀ j, j < k → g j = 1 → u j * py < rs) (y3 : Int64) : ∃ y2 f, lp_X11_layRho_249 (nI r) (nI c) y3 cnt (lN rs) (lN py) sets up FU (nI y) (0 : Int32) (0 : Int32) = some (nI y2, f) ∧ mks y2 k S c (gv u rs py) ∧ ((f = 0 ∧ ∀ j, j < k → bt (S j) c * gv u rs py j = bt (S j) c * g j) ∨ (f = 1 ∧ pc8 y < pc8 y2)) := by
  obtain ⟨rfl, hk, hh, -⟩ := h
  obtain ⟨hy1, hy2⟩ := hy
  have h1 := up0 (k := k) (fun n i => ∀ (y1 : Nat) (f : Int32), y1 < 128 → (∀ j, j < k → bt y1 j = if j < i then bt (S j) c * gv u rs py j else bt (S j) c * g j) → ((f = 0 ∧ y1 = y ∧ ∀ j, j < i → bt (S j) c * gv u rs py j = bt (S j) c * g j) ∨ (f = 1 ∧ pc8 y < pc8 y1)) → ∃ y2 f2, lp_X11_layRho_249 (nI r) (nI c) y3 (nI k) (lN rs) (lN py) sets up n (nI y1) f (nI i) = some (nI y2, f2) ∧ mks y2 k S c (gv u rs py) ∧ ((f2 = 0 ∧ ∀ j, j < k → bt (S j) c * gv u rs py j = bt (S j) c * g j) ∨ (f2 = 1 ∧ pc8 y < pc8 y2))) (by omega)
    (fun n y1 f a1 a2 a3 => by
      refine ⟨y1, f, by rw [lp_X11_layRho_249, if_pos ((nI_le7 hk hk).mpr (Nat.le_refl _))], ⟨a1, fun j hj => by rw [a2 j hj, if_pos hj]⟩, ?_⟩
      rcases a3 with ⟨b1, -, b3⟩ | b
      · exact Or.inl ⟨b1, b3⟩
      · exact Or.inr b)
    (fun n i hi ih y1 f a1 a2 a3 => by
      obtain ⟨e1, e2, e3⟩ := hh i hi
      have e4 := hu i (by omega)
      have e5 := a2 i hi
      rw [if_neg (by omega)] at e5
      have hgi := hg i
      -- going on with the mask as it is: when bit i does not change
      have same : bt (S i) c * gv u rs py i = bt (S i) c * g i → ∃ y2 f2, lp_X11_layRho_249 (nI r) (nI c) y3 (nI k) (lN rs) (lN py) sets up n (nI y1) f (nI (i + 1)) = some (nI y2, f2) ∧ mks y2 k S c (gv u rs py) ∧ ((f2 = 0 ∧ ∀ j, j < k → bt (S j) c * gv u rs py j = bt (S j) c * g j) ∨ (f2 = 1 ∧ pc8 y < pc8 y2)) := fun hs => by
        refine ih y1 f a1 (fun j hj => ?_) ?_
        · rw [a2 j hj]
          by_cases g1 : j < i
          · rw [if_pos g1, if_pos (by omega)]
          · rw [if_neg g1]
            by_cases g2 : j = i
            · subst g2
              rw [if_pos (by omega), hs]
            · rw [if_neg (by omega)]
        · rcases a3 with ⟨b1, b2, b3⟩ | b
          · refine Or.inl ⟨b1, b2, fun j hj => ?_⟩
            rcases Nat.lt_or_ge j i with q | q
            · exact b3 j q
            · obtain rfl : j = i := by omega
              exact hs
          · exact Or.inr b
      rw [lp_X11_layRho_249, if_neg (by rw [nI_le7 hk (by omega)]; omega)]
      simp (disch := omega) only [row_ix, ob_inN, nI_clamp, eq_self, if_true, e1, e4, pb_bit, nI_1, lN_mul]
      rcases bt_01 (S i) c with q | q
      · rw [q, if_neg (by decide)]
        exact same (by rw [q, Nat.zero_mul, Nat.zero_mul])
      · rw [q, Nat.one_mul] at e5
        rw [q, if_pos (by decide), e5]
        rcases Nat.eq_zero_or_pos (g i) with g0 | g0
        · rw [g0, if_pos (by decide)]
          have hcm := cmp_lN (mul_lt63 (hub i) hpy) (show rs < 2 ^ 63 by omega)
          by_cases gg : u i * py < rs
          · rw [if_neg (fun z => by have := hcm.mp z; omega), pb_or7 (by omega)]
            have b0 : bt y1 i = 0 := by rw [e5, g0]
            refine ih _ 1 (or_pow7 _ a1 _ (by omega)) (fun j hj => ?_) (Or.inr ⟨rfl, ?_⟩)
            · rw [bt_or7 _ a1 _ (by omega) j (by omega)]
              by_cases g2 : j = i
              · subst g2
                rw [if_pos rfl, if_pos (by omega), q, gv_1.mpr gg]
              · rw [if_neg g2, a2 j hj]
                by_cases g1 : j < i
                · rw [if_pos g1, if_pos (by omega)]
                · rw [if_neg g1, if_neg (by omega)]
            · rw [pc8_or7 _ a1 _ (by omega) b0]
              rcases a3 with ⟨-, b2, -⟩ | ⟨-, b⟩
              · rw [b2]; omega
              · omega
          · rw [if_pos (hcm.mpr (by omega))]
            exact same (by
              have : gv u rs py i = 0 := by unfold gv; rw [if_neg gg]
              rw [this, g0])
        · have g1 : g i = 1 := by omega
          rw [g1, if_neg (by decide)]
          exact same (by rw [g1, gv_1.mpr (hup i hi g1)]))
  exact h1 y 0 hy1 (fun j hj => by rw [hy2 j hj, if_neg (by omega)]) (Or.inl ⟨rfl, rfl, fun j hj => by omega⟩)
