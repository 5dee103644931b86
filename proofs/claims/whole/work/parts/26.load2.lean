/-! LOAD: both sides' steps -/
theorem zpk {x : Nat} {n : Nat} (k : Nat) (S P : Nat → Nat) (hz : ∀ c, c < 8 → bt x c = 0 → tel k S P c = 0) (hn : n ≤ 8) : am x (fun _ => 0) n = am x (tel k S P) n := (am_cong (fun c h1 h2 => by rw [hz c h1 h2]) hn)
theorem am0_s (x n : Nat) : am x (fun _ => 0) (n + 1) = match am x (fun _ => 0) n with
    | none => if bt x n = 0 then some n else none
    | some b => some b := by
  rw [am_s]
  cases am x (fun _ => 0) n with
  | none => rfl
  | some b => simp
theorem lightest_eq {cnt : Int32} {sets papers : Nat → Int32} {k : Nat} {S P : Nat → Nat} (h : hp cnt sets papers k S P) {up : Nat → Int64} {u : Nat → Nat} (hu : upr up 0 u) {x lo : Nat} (hx : x < 256) (hp : pc8 x < 8) (hB : ∀ c, c < 8 → lw k S P lo u c ≤ 10000000000000000) : f_X5_lightest (nI x) cnt (lN lo) papers sets up = some (nI (lpk k S P x lo u)) := by
  have hT : ∀ c, tel k S P c ≤ 600 := fun c => Nat.le_trans (tel_le k S P c) h.2.2.2
  have h1 := up0 (k := 8) (fun n i => ∀ (y3 : Int32) (y4 : Int64) (y6 : Int32), ((∃ b, al k S P x lo u i = some b ∧ y3 = nI b ∧ y4 = lN (lw k S P lo u b) ∧ y6 = nI (tel k S P b)) ∨ (al k S P x lo u i = none ∧ y6 = 0 ∧ y3 = encN (am x (fun _ => 0) i))) → lp_X5_lightest_12 (nI x) cnt (lN lo) papers sets up n y3 y4 y6 (nI i) = some (nI (lpk k S P x lo u))) (by omega)
    (fun n y3 y4 y6 hI => by
      rw [lp_X5_lightest_12, if_pos (by decide)]
      unfold lpk
      rcases hI with ⟨b, e, rfl, -, -⟩ | ⟨e, -, rfl⟩
      · rw [e]
      · rw [e, zpk k S P (al_none e) (Nat.le_refl 8), enc_pk hx hp])
    (fun n i hi ih y3 y4 y6 hI => by
      rw [lp_X5_lightest_12, if_neg (by rw [le8 (by omega)]; omega), telling_eq h hi, ob_sb, sumOf5_eq h hu hi, ob_sb, pb_bit (by omega) (by omega), lN_add]
      have hti := hT i
      have e0 : (nI (tel k S P i) ≤ 0) ↔ tel k S P i = 0 := by
        rw [nI_0', nI_leI (by omega) (by decide)]
        omega
      have hlw : lo + su k S P u i = lw k S P lo u i := rfl
      rw [hlw, nI_1]
      rcases bt_01 x i with q | q
      · rw [q, if_neg (by decide)]
        by_cases t0 : tel k S P i = 0
        · rw [if_pos (e0.mpr t0)]
          rcases hI with ⟨b, e, rfl, rfl, rfl⟩ | ⟨e, rfl, rfl⟩
          · have hb := al_in e
            rw [if_neg (nI_ne6 (by omega))]
            refine ih _ _ _ (Or.inl ⟨b, ?_, rfl, rfl, rfl⟩)
            rw [al_s, e]
            dsimp only
            rw [if_neg (fun z => by omega)]
          · cases e2 : am x (fun _ => 0) i with
            | none =>
              rw [encN_n, if_pos rfl, t0]
              refine ih _ _ _ (Or.inr ⟨?_, rfl, ?_⟩)
              · rw [al_s, e]
                dsimp only
                rw [if_neg (fun z => by omega)]
              · rw [am0_s, e2]
                dsimp only
                rw [if_pos q]
                rfl
            | some b =>
              have hb := am_in e2
              rw [encN_s, if_neg (nI_ne6 (by omega))]
              refine ih _ _ _ (Or.inr ⟨?_, rfl, ?_⟩)
              · rw [al_s, e]
                dsimp only
                rw [if_neg (fun z => by omega)]
              · rw [am0_s, e2]
                rfl
        · rw [if_neg (fun z => t0 (e0.mp z))]
          rcases hI with ⟨b, e, rfl, rfl, rfl⟩ | ⟨e, rfl, rfl⟩
          · have hb := al_in e
            have htb := hT b
            have hBi := hB i hi
            have hBb := hB b (by omega)
            rw [if_neg (nI_ne0 (by omega) (by omega)), nI_l (by omega), nI_l (by omega), lN_mul, lN_mul]
            have hc := cmp_lN (mul_lt63 hBi htb) (mul_lt63 hBb hti)
            by_cases g : lw k S P lo u i * tel k S P b < lw k S P lo u b * tel k S P i
            · rw [if_neg (fun z => by have := hc.mp z; omega)]
              have hn : al k S P x lo u (i + 1) = some i := by
                rw [al_s, e]
                dsimp only
                rw [if_pos ⟨q, by omega, g⟩]
              rw [if_neg (nI_ne6 (by omega))]
              exact ih _ _ _ (Or.inl ⟨i, hn, rfl, rfl, rfl⟩)
            · rw [if_pos (hc.mpr (by omega)), if_neg (nI_ne6 (by omega))]
              refine ih _ _ _ (Or.inl ⟨b, ?_, rfl, rfl, rfl⟩)
              rw [al_s, e]
              dsimp only
              rw [if_neg (fun z => g z.2.2)]
          · have hn : al k S P x lo u (i + 1) = some i := by
              rw [al_s, e]
              dsimp only
              rw [if_pos ⟨q, by omega⟩]
            rw [if_pos rfl]
            split <;> exact ih _ _ _ (Or.inl ⟨i, hn, rfl, rfl, rfl⟩)
      · rw [q, if_pos (by decide)]
        refine ih _ _ _ ?_
        rcases hI with ⟨b, e, e1, e2, e3⟩ | ⟨e, e1, e2⟩
        · refine Or.inl ⟨b, ?_, e1, e2, e3⟩
          rw [al_s, e]
          dsimp only
          rw [if_neg (fun z => by omega)]
        · refine Or.inr ⟨?_, e1, ?_⟩
          · rw [al_s, e]
            dsimp only
            rw [if_neg (fun z => by omega)]
          · rw [e2, am0_s]
            cases am x (fun _ => 0) i with
            | none =>
              dsimp only
              rw [if_neg (by omega)]
            | some b => rfl)
  unfold f_X5_lightest
  exact bind_id (h1 (-6) 0 0 (Or.inr ⟨rfl, rfl, rfl⟩))
theorem upL_s {f : Nat → Int64} {k : Nat} {x : Int64} : vp_updL f k x k = x := pk_uLs
theorem lt6 {i : Nat} (h : i ≤ 100) : (6 : Int32) < nI i ↔ 6 < i := nI_ltI (a := 6) (by decide) (by omega)
theorem le7' {i : Nat} (h : i ≤ 100) : (7 : Int32) ≤ nI i ↔ 7 ≤ i := nI_leI (a := 7) (by decide) (by omega)
theorem widen5_eq {up : Nat → Int64} {u : Nat → Nat} (hu : upr up 0 u) {lo t : Nat} (ht : t ≤ 600) : ∃ up2, f_X1_widen_X5 (nI t) (lN lo) up = some (lN (lo * t), up2) ∧ upr up2 0 (fun j => u j * t) := by
  have h1 := up0 (k := 7) (fun n i => ∀ up : Nat → Int64, (∀ j, j < i → up j = lN (u j * t)) → (∀ j, i ≤ j → j < 7 → up j = lN (u j)) → ∃ up2, lp_X1_widen_X5_2 (nI t) n (nI i) up = some up2 ∧ upr up2 0 (fun j => u j * t)) (by omega)
    (fun n up a1 _ => ⟨up, by rw [lp_X1_widen_X5_2, if_pos (by decide)], fun j hj => by rw [Nat.zero_add]; exact a1 j hj⟩)
    (fun n i hi ih up a1 a2 => by
      obtain ⟨up2, e1, e2⟩ := ih (vp_updL up i (lN (u i * t))) (fun j hj => by
        rcases Nat.lt_or_ge j i with q | q
        · rw [pk_uLn (by omega), a1 j q]
        · obtain rfl : j = i := by omega
          rw [pk_uLs]) (fun j h1 h2 => by rw [pk_uLn (by omega), a2 j (by omega) h2])
      refine ⟨up2, ?_, e2⟩
      rw [lp_X1_widen_X5_2, if_neg (by rw [lt6 (by omega)]; omega)]
      simp (disch := omega) only [ob_inN, nI_clamp, eq_self, if_true, a2 i (Nat.le_refl _) hi, nI_l, lN_mul, nI_1]
      exact e1)
  obtain ⟨up2, e1, e2⟩ := h1 up (fun j hj => by omega) (fun j _ hj => by have := hu j hj; rw [Nat.zero_add] at this; exact this)
  refine ⟨up2, ?_, e2⟩
  unfold f_X1_widen_X5
  rw [nI_0', e1, ob_sb, nI_l (by omega), lN_mul]
theorem begin5_eq (up : Nat → Int64) (lo : Int64) : ∃ up2, f_X1_begin_X5 (0 : Int32) lo up = some (lN 1, up2) ∧ upr up2 0 (fun _ => 0) := by
  have h1 := up0 (k := 7) (fun n i => ∀ up : Nat → Int64, (∀ j, j < i → up j = lN 0) → ∃ up2, lp_X1_begin_X5_2 (0 : Int32) n (nI i) up = some up2 ∧ upr up2 0 (fun _ => 0)) (by omega)
    (fun n up a1 => ⟨up, by rw [lp_X1_begin_X5_2, if_pos (by decide)], fun j hj => by rw [Nat.zero_add]; exact a1 j hj⟩)
    (fun n i hi ih up a1 => by
      obtain ⟨up2, e1, e2⟩ := ih (vp_updL up i (lN 0)) (fun j hj => by
        rcases Nat.lt_or_ge j i with q | q
        · rw [pk_uLn (by omega), a1 j q]
        · obtain rfl : j = i := by omega
          rw [pk_uLs])
      refine ⟨up2, ?_, e2⟩
      rw [lp_X1_begin_X5_2, if_neg (by rw [lt6 (by omega)]; omega)]
      simp (disch := omega) only [ob_inN, nI_clamp, eq_self, if_true, nI_1]
      exact e1)
  obtain ⟨up2, e1, e2⟩ := h1 up (fun j hj => by omega)
  refine ⟨up2, ?_, e2⟩
  unfold f_X1_begin_X5
  rw [show lp_X1_begin_X5_2 (0 : Int32) FU (0 : Int32) up = some up2 from e1]
  rfl
/-- what is borne behind a choice b -/
def lu (k : Nat) (S P : Nat → Nat) (lo : Nat) (u : Nat → Nat) (b : Nat) : Nat → Nat := fun j => if tel k S P b = 0 then u j else if j < k ∧ bt (S j) b = 1 then lw k S P lo u b else u j * tel k S P b
def lm (k : Nat) (S P : Nat → Nat) (b : Nat) : Nat := if tel k S P b = 0 then 1 else tel k S P b
theorem bear_eq {cnt : Int32} {sets papers : Nat → Int32} {k : Nat} {S P : Nat → Nat} (h : hp cnt sets papers k S P) {up : Nat → Int64} {u : Nat → Nat} (hu : upr up 0 u) {lo b : Nat} (hb : b < 8) : ∃ up2, f_X5_bear (nI b) cnt (lN lo) papers sets up = some (lN (lo * lm k S P b), up2) ∧ upr up2 0 (lu k S P lo u b) := by
  have hT : tel k S P b ≤ 600 := Nat.le_trans (tel_le k S P b) h.2.2.2
  unfold f_X5_bear
  rw [telling_eq h hb, ob_sb]
  unfold lm lu
  by_cases t0 : tel k S P b = 0
  · refine ⟨up, ?_, fun j hj => ?_⟩
    · rw [t0, if_pos (by decide), if_pos rfl, Nat.mul_one]
    · dsimp only
      rw [hu j hj, if_pos t0]
  · rw [if_neg (nI_ne0 (by omega) (by omega)), sumOf5_eq h hu hb, ob_sb, if_neg t0]
    obtain ⟨up1, a1, a2⟩ := widen5_eq hu (lo := lo) hT
    rw [a1, ob_sb, lN_add]
    have ht := fun j hj => tells_eq h (j := j) hj hb
    obtain ⟨rfl, hk, hh, -⟩ := h
    have h1 := up0 (k := k) (fun n i => ∀ up : Nat → Int64, (∀ j, j < 7 → up j = lN (if j < i ∧ bt (S j) b = 1 then lw k S P lo u b else u j * tel k S P b)) → ∃ up2, lp_X5_bear_32 (nI b) (lN (lw k S P lo u b)) (nI k) sets n (nI i) up = some up2 ∧ ∀ j, j < 7 → up2 j = lN (if j < k ∧ bt (S j) b = 1 then lw k S P lo u b else u j * tel k S P b)) (by omega)
      (fun n up c1 => ⟨up, by rw [lp_X5_bear_32, if_pos ((nI_le7 hk hk).mpr (Nat.le_refl _))], c1⟩)
      (fun n i hi ih up c1 => by
        rw [lp_X5_bear_32, if_neg (by rw [nI_le7 hk (by omega)]; omega), ht i hi, ob_sb]
        rcases bt_01 (S i) b with q | q
        · rw [q, if_pos (by decide), nI_1]
          refine ih up (fun j hj => ?_)
          rw [c1 j hj]
          rcases Nat.lt_or_ge j i with g | g
          · by_cases g2 : bt (S j) b = 1
            · rw [if_pos ⟨g, g2⟩, if_pos ⟨by omega, g2⟩]
            · rw [if_neg (fun z => g2 z.2), if_neg (fun z => g2 z.2)]
          · rw [if_neg (fun z => by omega), if_neg (fun z => by
              have hz := z.2
              obtain rfl : j = i := by omega
              omega)]
        · rw [q, if_neg (by decide)]
          simp (disch := omega) only [ob_inN, nI_clamp, eq_self, if_true, nI_1]
          refine ih _ (fun j hj => ?_)
          by_cases g : j = i
          · subst g
            rw [pk_uLs, if_pos ⟨by omega, q⟩]
          · rw [pk_uLn g, c1 j hj]
            by_cases g2 : bt (S j) b = 1
            · by_cases g3 : j < i
              · rw [if_pos ⟨g3, g2⟩, if_pos ⟨by omega, g2⟩]
              · rw [if_neg (fun z => g3 z.1), if_neg (fun z => by omega)]
            · rw [if_neg (fun z => g2 z.2), if_neg (fun z => g2 z.2)])
    obtain ⟨up2, e1, e2⟩ := h1 up1 (fun j hj => by
      have := a2 j hj
      rw [Nat.zero_add] at this
      rw [this, if_neg (fun z => by omega)])
    refine ⟨up2, ?_, fun j hj => ?_⟩
    · rw [show lo + su k S P u b = lw k S P lo u b from rfl]
      rw [show lp_X5_bear_32 (nI b) (lN (lw k S P lo u b)) (nI k) sets FU (0 : Int32) up1 = some up2 from e1]
      rfl
    · dsimp only
      rw [Nat.zero_add, e2 j hj, if_neg t0]
