/-! BREACH -/
theorem countM_eq {k : Nat} {S : Nat → Nat} (hk : k ≤ 6) (hS : ∀ j, j < k → S j < 256) {x : Nat} (hx : x < 256) {v mh : Nat → Int32} (hv : ∀ j, j < k → v j = nI (S j)) (h0 : mh 0 = 0) : ∃ mh2, f_X2_countMostHad (nI x) (nI (2 ^ k)) mh v = some mh2 ∧ (∀ g, g < 2 ^ k → mh2 g = nI (gMx S x k g)) ∧ mh2 0 = 0 := by
  have h64 := pow_le6 k (by omega)
  have h2k : 1 ≤ 2 ^ k := Nat.one_le_two_pow
  have z1 : ∀ (op : Nat → Nat → Nat) (e : Nat) (f : Nat → Nat) n, fd op e f 0 n = e := by
    intro op e f n
    induction n with
    | zero => rfl
    | succ n ih => rw [fd_s, if_neg (by unfold bt; simp)]; exact ih
  have h1 := upp (k := 2 ^ k) (fun n g => ∀ mh : Nat → Int32, (∀ y, y < g → mh y = nI (gMx S x k y)) → ∃ mh2, lp_X2_countMostHad_2 (nI x) (nI (2 ^ k)) v n (nI g) mh = some mh2 ∧ (∀ g, g < 2 ^ k → mh2 g = nI (gMx S x k g))) (by omega) h2k
    (fun n mh a => ⟨mh, by rw [lp_X2_countMostHad_2, if_pos ((le256 (by omega) (by omega)).mpr (Nat.le_refl _))], a⟩)
    (fun n g hg1 hg ih mh a => by
      obtain ⟨l1, l2, l3⟩ := low_eq g (by omega) hg1
      obtain ⟨r1, r2, r3, r4⟩ := rest_eq g (by omega) hg1
      have hlk := bt_big k (by omega) g hg _ l2 l3
      have hsl := hS _ hlk
      have ha := and_lt8 (b := x) hsl
      have f1 : gMx S x k g = (if gMx S x k (g &&& (g - 1)) < pc8 (S (lb g) &&& x) then pc8 (S (lb g) &&& x) else gMx S x k (g &&& (g - 1))) := fd_out max_r l3 r3 hlk (fun j hj => r4 j (by omega))
      have m1 := gMx_le S x (g &&& (g - 1)) k
      have m2 := pc8_le (S (lb g) &&& x)
      rw [lp_X2_countMostHad_2, if_neg (by rw [le256 (by omega) (by omega)]; omega), l1, ob_sb, r1]
      simp (disch := omega) only [ob_inN, nI_clamp, eq_self, if_true, hv _ hlk, a _ r2, fa_and, bitCount_8 _ ha, ob_sb, nI_1, nI_ltI]
      refine ih _ (fun y hy => ?_)
      by_cases q : y = g
      · subst q
        rw [pk_us, f1]
        split <;> rfl
      · rw [pk_un q]
        exact a y (by omega))
  obtain ⟨mh2, e1, e2⟩ := h1 mh (fun y hy => by
    obtain rfl : y = 0 := by omega
    rw [gMx, z1]
    exact h0)
  refine ⟨mh2, ?_, e2, ?_⟩
  · unfold f_X2_countMostHad
    exact bind_id e1
  · rw [e2 0 (by omega), gMx, z1]
    rfl
/-- how many a group has, by the law's measure -/
def hasL (law : Nat) (S : Nat → Nat) (x k g : Nat) : Nat := if law = 1 then pc8 (gAn S k g &&& x) else gMx S x k g
theorem hasL_le (law : Nat) (S : Nat → Nat) (x k g : Nat) : hasL law S x k g ≤ 8 := by
  unfold hasL
  split
  · exact pc8_le _
  · exact gMx_le S x g k
/-- a group that is wronged -/
def wrB (law k : Nat) (S P : Nat → Nat) (s x : Nat) : Nat → Bool := fun g => decide ((¬ law = 0 ∨ hasL law S x k g = 0) ∧ hasL law S x k g < due k S P s g)
abbrev brc (law k : Nat) (S P : Nat → Nat) (s x : Nat) : Option Nat := amq (wrB law k S P s x) (gtW (hasL law S x k)) (2 ^ k)
def szE (f : Nat → Nat) : Option Nat → Int32
  | none => -6
  | some b => nI (f b + 1)
theorem szE_n (f : Nat → Nat) : szE f none = -6 := rfl
theorem szE_s (f : Nat → Nat) (b : Nat) : szE f (some b) = nI (f b + 1) := rfl
theorem wrB_t {law k : Nat} {S P : Nat → Nat} {s x g : Nat} : wrB law k S P s x g = true ↔ (¬ law = 0 ∨ hasL law S x k g = 0) ∧ hasL law S x k g < due k S P s g := by unfold wrB; simp
theorem seek24_eq {k : Nat} {S P : Nat → Nat} (h6 : hp6 k P) {s : Nat} (hs : s ≤ 4) (hS : ∀ j, j < k → S j < 256) {law x : Nat} (hl : law < 3) (hx : x < 256) {an du mh : Nat → Int32} (ha : ∀ g, 1 ≤ g → g < 2 ^ k → an g = nI (gAn S k g) ∧ du g = nI (due k S P s g)) (hm : ¬ law = 1 → ∀ g, g < 2 ^ k → mh g = nI (gMx S x k g)) : lp_X2_seekBreach_24 (nI law) (nI x) (nI (2 ^ k)) an du mh FU (1 : Int32) (-6 : Int32) (-6 : Int32) = some (szE (hasL law S x k) (brc law k S P s x), encN (brc law k S P s x)) := by
  have hk := h6.1
  have h64 := pow_le6 k (by omega)
  have h2k : 1 ≤ 2 ^ k := Nat.one_le_two_pow
  have hdue : ∀ g, due k S P s g ≤ 8 := fun g => by
    unfold due
    have := pc8_le (gCm S k g)
    omega
  have h1 := upp (k := 2 ^ k) (fun n g => lp_X2_seekBreach_24 (nI law) (nI x) (nI (2 ^ k)) an du mh n (nI g) (szE (hasL law S x k) (amq (wrB law k S P s x) (gtW (hasL law S x k)) g)) (encN (amq (wrB law k S P s x) (gtW (hasL law S x k)) g)) = some (szE (hasL law S x k) (brc law k S P s x), encN (brc law k S P s x))) (by omega) h2k
    (fun n => by rw [lp_X2_seekBreach_24, if_pos ((le256 (by omega) (by omega)).mpr (Nat.le_refl _))])
    (fun n g hg1 hg ih => by
      obtain ⟨a1, a2⟩ := ha g hg1 hg
      have hd := hdue g
      have hh := hasL_le law S x k g
      -- the tail of a round
      have tail : ∀ hv : Nat, hasL law S x k g = hv → (¬ law = 0 ∨ hv = 0) → (if nI (due k S P s g) ≤ nI hv then lp_X2_seekBreach_24 (nI law) (nI x) (nI (2 ^ k)) an du mh n (nI (g + 1)) (szE (hasL law S x k) (amq (wrB law k S P s x) (gtW (hasL law S x k)) g)) (encN (amq (wrB law k S P s x) (gtW (hasL law S x k)) g)) else (if szE (hasL law S x k) (amq (wrB law k S P s x) (gtW (hasL law S x k)) g) = (-6 : Int32) then lp_X2_seekBreach_24 (nI law) (nI x) (nI (2 ^ k)) an du mh n (nI (g + 1)) (nI hv + (1 : Int32)) (nI g) else (if szE (hasL law S x k) (amq (wrB law k S P s x) (gtW (hasL law S x k)) g) ≤ (nI hv + (1 : Int32)) then lp_X2_seekBreach_24 (nI law) (nI x) (nI (2 ^ k)) an du mh n (nI (g + 1)) (szE (hasL law S x k) (amq (wrB law k S P s x) (gtW (hasL law S x k)) g)) (encN (amq (wrB law k S P s x) (gtW (hasL law S x k)) g)) else lp_X2_seekBreach_24 (nI law) (nI x) (nI (2 ^ k)) an du mh n (nI (g + 1)) (nI hv + (1 : Int32)) (nI g)))) = some (szE (hasL law S x k) (brc law k S P s x), encN (brc law k S P s x)) := fun hv hhv hc => by
        subst hhv
        rw [nI_1]
        by_cases q : hasL law S x k g < due k S P s g
        · have hw : wrB law k S P s x g = true := wrB_t.mpr ⟨hc, q⟩
          rw [if_neg (by rw [nI_leI (by omega) (by omega)]; omega)]
          rw [amq_s] at ih
          cases e : amq (wrB law k S P s x) (gtW (hasL law S x k)) g with
          | none =>
            rw [e] at ih
            dsimp only at ih
            rw [if_pos hw] at ih
            rw [szE_n, if_pos rfl]
            exact ih
          | some b =>
            have hb := hasL_le law S x k b
            rw [e] at ih
            dsimp only at ih
            rw [szE_s, if_neg (nI_ne6 (by omega))]
            by_cases z : hasL law S x k g < hasL law S x k b
            · rw [if_pos ⟨hw, by simp [z]⟩] at ih
              rw [if_neg (by rw [nI_leI (by omega) (by omega)]; omega)]
              exact ih
            · rw [if_neg (fun y => z (by simpa using y.2))] at ih
              rw [if_pos (by rw [nI_leI (by omega) (by omega)]; omega)]
              exact ih
        · rw [amq_no (fun z => q (wrB_t.mp z).2)] at ih
          rw [if_pos (by rw [nI_leI (by omega) (by omega)]; omega)]
          exact ih
      have stay : ¬ (¬ law = 0 ∨ hasL law S x k g = 0) → lp_X2_seekBreach_24 (nI law) (nI x) (nI (2 ^ k)) an du mh n (nI (g + 1)) (szE (hasL law S x k) (amq (wrB law k S P s x) (gtW (hasL law S x k)) g)) (encN (amq (wrB law k S P s x) (gtW (hasL law S x k)) g)) = some (szE (hasL law S x k) (brc law k S P s x), encN (brc law k S P s x)) := fun hn => by
        rw [amq_no (fun z => hn (wrB_t.mp z).1)] at ih
        exact ih
      rw [lp_X2_seekBreach_24, if_neg (by rw [le256 (by omega) (by omega)]; omega), nI_1]
      have l0 : (nI law = 0) ↔ law = 0 := nI_eq (b := 0) (by omega) (by decide)
      have l1 : (nI law = 1) ↔ law = 1 := nI_eq (b := 1) (by omega) (by decide)
      simp (disch := omega) only [ob_inN, nI_clamp, eq_self, if_true, a1, a2, l0, l1]
      by_cases q1 : law = 1
      · have hAl := gAn_lt hS g
        have hhas : hasL law S x k g = pc8 (gAn S k g &&& x) := by unfold hasL; rw [if_pos q1]
        rw [if_pos q1, fa_and, bitCount_8 _ (and_lt8 hAl), ob_sb, if_neg (by omega)]
        exact tail _ hhas (Or.inl (by omega))
      · have hhas : hasL law S x k g = gMx S x k g := by unfold hasL; rw [if_neg q1]
        have hmm := gMx_le S x g k
        rw [if_neg q1, hm q1 g hg]
        by_cases q0 : law = 0
        · rw [if_pos q0]
          by_cases z : gMx S x k g = 0
          · rw [if_pos (by rw [z]; rfl)]
            exact tail _ hhas (Or.inr z)
          · rw [if_neg (nI_ne0 (by omega) (by omega))]
            exact stay (by rw [hhas]; omega)
        · rw [if_neg q0]
          exact tail _ hhas (Or.inl q0))
  have hz : amq (wrB law k S P s x) (gtW (hasL law S x k)) 1 = none := by
    rw [amq_no (n := 0) (fun z => by
      have h3 := (wrB_t.mp z).2
      have : due k S P s 0 = 0 := by
        have z1 : ∀ n, gPp P n 0 = 0 := by
          intro n
          induction n with
          | zero => rfl
          | succ n ih => rw [gPp, fd_s, if_neg (by unfold bt; simp)]; exact ih
        unfold due
        rw [z1, Nat.zero_mul, Nat.zero_div]
        omega
      omega)]
    rfl
  rw [hz] at h1
  exact h1
theorem seek_eq {k : Nat} {S P : Nat → Nat} (h6 : hp6 k P) {s : Nat} (hs : s ≤ 4) (hS : ∀ j, j < k → S j < 256) {law x : Nat} (hl : law < 3) (hx : x < 256) {an du mh v : Nat → Int32} (ha : ∀ g, 1 ≤ g → g < 2 ^ k → an g = nI (gAn S k g) ∧ du g = nI (due k S P s g)) (hv : ∀ j, j < k → v j = nI (S j)) (h0 : mh 0 = 0) (b0 g0 : Int32) : ∃ mh2, f_X2_seekBreach (nI law) (nI x) (nI (2 ^ k)) b0 g0 an du mh v = some (szE (hasL law S x k) (brc law k S P s x), encN (brc law k S P s x), mh2) ∧ mh2 0 = 0 := by
  have l1 : (nI law = 1) ↔ law = 1 := nI_eq (b := 1) (by omega) (by decide)
  unfold f_X2_seekBreach
  by_cases q : law = 1
  · refine ⟨mh, ?_, h0⟩
    rw [if_pos (l1.mpr q), seek24_eq h6 hs hS hl hx ha (fun z => absurd q z)]
    rfl
  · obtain ⟨mh2, e1, e2, e3⟩ := countM_eq h6.1 hS hx hv h0
    refine ⟨mh2, ?_, e3⟩
    rw [if_neg (fun z => q (l1.mp z)), e1, ob_sb, seek24_eq h6 hs hS hl hx ha (fun _ => e2)]
    rfl
