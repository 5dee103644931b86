/-! SHARE: the choice -/
theorem ac_s (k : Nat) (S P : Nat → Nat) (x lo : Nat) (u : Nat → Nat) (n : Nat) : ac k S P x lo u (n + 1) = match ac k S P x lo u n with
    | none => if bt x n = 0 ∧ af k S P lo u n then some n else none
    | some b => if bt x n = 0 ∧ af k S P lo u n ∧ rho k S P lo u n * pys k S P lo u b < rho k S P lo u b * pys k S P lo u n then some n else some b := rfl
theorem ac_in {k : Nat} {S P : Nat → Nat} {x lo : Nat} {u : Nat → Nat} : ∀ {n b : Nat}, ac k S P x lo u n = some b → b < n ∧ bt x b = 0 ∧ af k S P lo u b := by
  intro n
  induction n with
  | zero => intro b h; cases h
  | succ n ih =>
    intro b h
    rw [ac_s] at h
    cases e : ac k S P x lo u n with
    | none =>
      rw [e] at h
      dsimp only at h
      by_cases q : bt x n = 0 ∧ af k S P lo u n
      · rw [if_pos q] at h; cases h; exact ⟨by omega, q⟩
      · rw [if_neg q] at h; cases h
    | some d =>
      rw [e] at h
      dsimp only at h
      obtain ⟨h1, h2⟩ := ih e
      by_cases q : bt x n = 0 ∧ af k S P lo u n ∧ rho k S P lo u n * pys k S P lo u d < rho k S P lo u d * pys k S P lo u n
      · rw [if_pos q] at h; cases h; exact ⟨by omega, q.1, q.2.1⟩
      · rw [if_neg q] at h; cases h; exact ⟨by omega, h2⟩
theorem ac_none {k : Nat} {S P : Nat → Nat} {x lo : Nat} {u : Nat → Nat} : ∀ {n : Nat}, ac k S P x lo u n = none → ∀ c, c < n → bt x c = 0 → ¬ af k S P lo u c := by
  intro n
  induction n with
  | zero => intro _ c hc; omega
  | succ n ih =>
    intro h c hc hb ha
    rw [ac_s] at h
    cases e : ac k S P x lo u n with
    | none =>
      rw [e] at h
      dsimp only at h
      by_cases q : bt x n = 0 ∧ af k S P lo u n
      · rw [if_pos q] at h; cases h
      · rcases Nat.lt_or_ge c n with q1 | q1
        · exact ih e c q1 hb ha
        · obtain rfl : c = n := by omega
          exact q ⟨hb, ha⟩
    | some d =>
      rw [e] at h
      dsimp only at h
      split at h <;> cases h
theorem ac_none_of {k : Nat} {S P : Nat → Nat} {x lo : Nat} {u : Nat → Nat} : ∀ {n : Nat}, (∀ c, c < n → bt x c = 0 → ¬ af k S P lo u c) → ac k S P x lo u n = none := by
  intro n
  induction n with
  | zero => intro _; rfl
  | succ n ih =>
    intro h
    rw [ac_s, ih (fun c hc => h c (by omega))]
    dsimp only
    rw [if_neg (fun z => h n (by omega) z.1 z.2)]
theorem mul_lt63' {a b : Nat} (ha : a ≤ 10000000000000000) (hb : b ≤ 600) : a * b < 2 ^ 63 := mul_lt63 ha hb
theorem cheapest_eq {cnt : Int32} {sets papers : Nat → Int32} {k : Nat} {S P : Nat → Nat} (h : hp cnt sets papers k S P) {up : Nat → Int64} {u : Nat → Nat} (hu : upr up 0 u) {x lo : Nat} (hx : x < 256) (hub : ∀ j, u j ≤ 10000000000000000) (hlo : sm P k * lo ≤ 10000000000000000) (hsu : ∀ c, su k S P u c < 2 ^ 63) (r0 : Int64) (p0 : Int32) : ∃ r1 p1, f_X6_cheapest (nI x) cnt (lN lo) r0 p0 papers sets up = some (encN (ac k S P x lo u 8), r1, p1) := by
  have hP := h.2.2.2
  have hT : ∀ c, tel k S P c ≤ 600 := fun c => Nat.le_trans (tel_le k S P c) hP
  have h1 := up0 (k := 8) (fun n i => ∀ (y3 : Int32) (y4 : Int64) (y6 : Int32) (r0 : Int64) (p0 : Int32), ((∃ b, ac k S P x lo u i = some b ∧ y3 = nI b ∧ y4 = lN (rho k S P lo u b) ∧ y6 = nI (pys k S P lo u b)) ∨ (ac k S P x lo u i = none ∧ y3 = -6)) → ∃ r1 p1, lp_X6_cheapest_24 (nI x) (lN (sm P k * lo)) cnt (lN lo) papers sets up n y3 y4 y6 (nI i) r0 p0 = some (encN (ac k S P x lo u 8), r1, p1)) (by omega)
    (fun n y3 y4 y6 r0 p0 hI => by
      refine ⟨r0, p0, ?_⟩
      rw [lp_X6_cheapest_24, if_pos (by decide)]
      rcases hI with ⟨b, e, rfl, -, -⟩ | ⟨e, rfl⟩ <;> rw [e] <;> rfl)
    (fun n i hi ih y3 y4 y6 r0 p0 hI => by
      have hti := hT i
      have stay : ¬ (bt x i = 0 ∧ af k S P lo u i) → ((∃ b, ac k S P x lo u (i + 1) = some b ∧ y3 = nI b ∧ y4 = lN (rho k S P lo u b) ∧ y6 = nI (pys k S P lo u b)) ∨ (ac k S P x lo u (i + 1) = none ∧ y3 = -6)) := fun hn => by
        rcases hI with ⟨b, e, e1, e2, e3⟩ | ⟨e, e1⟩
        · refine Or.inl ⟨b, ?_, e1, e2, e3⟩
          rw [ac_s, e]
          dsimp only
          rw [if_neg (fun z => hn ⟨z.1, z.2.1⟩)]
        · refine Or.inr ⟨?_, e1⟩
          rw [ac_s, e]
          dsimp only
          rw [if_neg hn]
      rw [lp_X6_cheapest_24, if_neg (by rw [le8 (by omega)]; omega), pb_bit (by omega) (by omega), nI_1, telling_eq h hi, ob_sb, sumOf6_eq h hu hi, ob_sb]
      rcases bt_01 x i with q | q
      · rw [q, if_neg (by decide)]
        rcases Nat.eq_zero_or_pos (tel k S P i) with t0 | t0
        · rw [t0, if_pos (by decide)]
          exact ih _ _ _ _ _ (stay (fun z => by have := z.2.1; omega))
        · rw [if_neg (nI_ne0 t0 (by omega))]
          have hcm := cmp_lN (hsu i) (show sm P k * lo < 2 ^ 63 by omega)
          by_cases ha : sm P k * lo ≤ su k S P u i
          · rw [if_pos (hcm.mpr ha), price_eq h hu hi hub hlo t0 ha, ob_sb]
            have haf : af k S P lo u i := ⟨t0, ha⟩
            obtain ⟨bi1, bi2, bi3⟩ := rho_b h haf
            rcases hI with ⟨b, e, rfl, rfl, rfl⟩ | ⟨e, rfl⟩
            · have hb := ac_in e
              obtain ⟨bb1, bb2, bb3⟩ := rho_b h hb.2.2
              rw [if_neg (nI_ne6 (by omega))]
              dsimp only
              have bi4 : pay k (aw S P i) u (sm P k * lo) 7 ≤ 600 := bi2
              rw [nI_l (by omega), nI_l (by omega), lN_mul, lN_mul]
              have hc2 := cmp_lN (mul_lt63 (show rho k S P lo u i ≤ 10000000000000000 by omega) bb2) (mul_lt63 (show rho k S P lo u b ≤ 10000000000000000 by omega) bi2)
              by_cases g : rho k S P lo u i * pys k S P lo u b < rho k S P lo u b * pys k S P lo u i
              · rw [if_neg (fun z => by have := hc2.mp z; omega)]
                refine ih _ _ _ _ _ (Or.inl ⟨i, ?_, rfl, rfl, rfl⟩)
                rw [ac_s, e]
                dsimp only
                rw [if_pos ⟨q, haf, g⟩]
              · rw [if_pos (hc2.mpr (by omega))]
                refine ih _ _ _ _ _ (Or.inl ⟨b, ?_, rfl, rfl, rfl⟩)
                rw [ac_s, e]
                dsimp only
                rw [if_neg (fun z => g z.2.2)]
            · rw [if_pos rfl]
              refine ih _ _ _ _ _ (Or.inl ⟨i, ?_, rfl, rfl, rfl⟩)
              rw [ac_s, e]
              dsimp only
              rw [if_pos ⟨q, haf⟩]
          · rw [if_neg (fun z => ha (hcm.mp z))]
            exact ih _ _ _ _ _ (stay (fun z => ha z.2.2))
      · rw [q, if_pos (by decide)]
        exact ih _ _ _ _ _ (stay (fun z => by omega)))
  obtain ⟨r1, p1, e⟩ := h1 (-6) 0 0 r0 p0 (Or.inr ⟨rfl, rfl⟩)
  refine ⟨r1, p1, ?_⟩
  unfold f_X6_cheapest
  rw [total_eq h, ob_sb, nI_l (by omega), lN_mul]
  rw [show lp_X6_cheapest_24 (nI x) (lN (sm P k * lo)) cnt (lN lo) papers sets up FU (-6 : Int32) (0 : Int64) (0 : Int32) (0 : Int32) r0 p0 = some (encN (ac k S P x lo u 8), r1, p1) from e]
  rfl
theorem share11_eq {cnt : Int32} {sets papers : Nat → Int32} {k : Nat} {S P : Nat → Nat} (h : hp cnt sets papers k S P) {up low : Nat → Int64} {u : Nat → Nat} {m lo : Nat} (hm : m ≤ 3) (hu : upr up (7 * m) u) (hl : low m = lN lo) {x : Nat} (hx : x < 256) (hub : ∀ j, u j ≤ 10000000000000000) (hlo : sm P k * lo ≤ 10000000000000000) (hsu : ∀ c, su k S P u c < 2 ^ 63) (ru rb : Int64) : ∃ r1 r2, lp_X11_share_11 (nI m) cnt (nI x) low papers sets up FU (-6 : Int32) (0 : Int64) (1 : Int64) (0 : Int32) ru rb = some (match ac k S P x lo u 8 with
    | some b => (nI b, lN (rho k S P lo u b), lN (pys k S P lo u b), r1, r2)
    | none => ((-6 : Int32), (0 : Int64), (1 : Int64), r1, r2)) := by
  have hP := h.2.2.2
  have h1 := up0 (k := 8) (fun n i => ∀ (y2 : Int32) (y3 y5 ru rb : Int64), (y2, y3, y5) = (match ac k S P x lo u i with
      | some b => (nI b, lN (rho k S P lo u b), lN (pys k S P lo u b))
      | none => ((-6 : Int32), (0 : Int64), (1 : Int64))) → ∃ r1 r2, lp_X11_share_11 (nI m) cnt (nI x) low papers sets up n y2 y3 y5 (nI i) ru rb = some (match ac k S P x lo u 8 with
    | some b => (nI b, lN (rho k S P lo u b), lN (pys k S P lo u b), r1, r2)
    | none => ((-6 : Int32), (0 : Int64), (1 : Int64), r1, r2))) (by omega)
    (fun n y2 y3 y5 ru rb hI => by
      refine ⟨ru, rb, ?_⟩
      rw [lp_X11_share_11, if_pos (by decide)]
      cases e : ac k S P x lo u 8 with
      | none =>
        rw [e] at hI
        dsimp only at hI ⊢
        obtain ⟨rfl, h23⟩ := Prod.mk.inj hI
        obtain ⟨rfl, rfl⟩ := Prod.mk.inj h23
        rfl
      | some b =>
        rw [e] at hI
        dsimp only at hI ⊢
        obtain ⟨rfl, h23⟩ := Prod.mk.inj hI
        obtain ⟨rfl, rfl⟩ := Prod.mk.inj h23
        rfl)
    (fun n i hi ih y2 y3 y5 ru rb hI => by
      have stay : ¬ (bt x i = 0 ∧ af k S P lo u i) → (y2, y3, y5) = (match ac k S P x lo u (i + 1) with
      | some b => (nI b, lN (rho k S P lo u b), lN (pys k S P lo u b))
      | none => ((-6 : Int32), (0 : Int64), (1 : Int64))) := fun hn => by
        rw [hI, ac_s]
        cases ac k S P x lo u i with
        | none =>
          dsimp only
          rw [if_neg hn]
        | some b =>
          dsimp only
          rw [if_neg (fun z => hn ⟨z.1, z.2.1⟩)]
      rw [lp_X11_share_11, if_neg (by rw [le8 (by omega)]; omega), isLeft_eq hx hi, ob_sb, nI_1]
      rcases bt_01 x i with q | q
      · rw [q, if_neg (by decide)]
        by_cases haf : af k S P lo u i
        · rw [layRho_yes h hm hu hl hi hub hlo (hsu i) haf, ob_sb, if_neg (show ¬ (1 : Int32) = 0 by decide)]
          dsimp only
          obtain ⟨bi1, bi2, bi3⟩ := rho_b h haf
          cases e : ac k S P x lo u i with
          | none =>
            rw [e] at hI
            dsimp only at hI
            obtain ⟨rfl, h23⟩ := Prod.mk.inj hI
            rw [if_pos nI_6neg]
            refine ih _ _ _ _ _ ?_
            rw [ac_s, e]
            dsimp only
            rw [if_pos ⟨q, haf⟩]
          | some b =>
            rw [e] at hI
            dsimp only at hI
            have hb := ac_in e
            obtain ⟨bb1, bb2, bb3⟩ := rho_b h hb.2.2
            obtain ⟨rfl, h23⟩ := Prod.mk.inj hI
            obtain ⟨rfl, rfl⟩ := Prod.mk.inj h23
            rw [if_neg (nI_nneg (by omega)), lN_mul, lN_mul]
            have hc2 := cmp_lN (mul_lt63 (show rho k S P lo u i ≤ 10000000000000000 by omega) bb2) (mul_lt63 (show rho k S P lo u b ≤ 10000000000000000 by omega) bi2)
            by_cases g : rho k S P lo u i * pys k S P lo u b < rho k S P lo u b * pys k S P lo u i
            · rw [if_neg (fun z => by have := hc2.mp z; omega)]
              refine ih _ _ _ _ _ ?_
              rw [ac_s, e]
              dsimp only
              rw [if_pos ⟨q, haf, g⟩]
            · rw [if_pos (hc2.mpr (by omega))]
              refine ih _ _ _ _ _ ?_
              rw [ac_s, e]
              dsimp only
              rw [if_neg (fun z => g z.2.2)]
        · rw [layRho_no h hm hu hl hi hlo (hsu i) haf, ob_sb, if_pos (show (0 : Int32) = 0 from rfl)]
          exact ih _ _ _ _ _ (stay (fun z => haf z.2))
      · rw [q, if_pos (by decide)]
        exact ih _ _ _ _ _ (stay (fun z => by omega)))
  exact h1 (-6) 0 1 ru rb rfl
