/-! KEPT, NEAREST -/
abbrev kq (law k : Nat) (S P : Nat → Nat) (s : Nat) (Lw : Nat → Bool) : Nat → Bool := fun x => qs s Lw x && (brc law k S P s x).isNone
theorem kq_t {law k : Nat} {S P : Nat → Nat} {s : Nat} {Lw : Nat → Bool} {x : Nat} : kq law k S P s Lw x = true ↔ qs s Lw x = true ∧ brc law k S P s x = none := by
  unfold kq
  rw [Bool.and_eq_true, Option.isNone_iff_eq_none]
theorem szE_neg {f : Nat → Nat} (hf : ∀ b, f b ≤ 8) (o : Option Nat) : (szE f o = (-6 : Int32) ↔ o = none) ∧ (0 ≤ szE f o ↔ ¬ o = none) := by
  cases o with
  | none => exact ⟨⟨fun _ => rfl, fun _ => rfl⟩, ⟨fun h => absurd (show (0 : Int32) ≤ -6 from h) (by decide), fun h => absurd rfl h⟩⟩
  | some b =>
    have := hf b
    refine ⟨⟨fun h => absurd h (nI_ne6 (by omega)), fun h => by cases h⟩, ⟨fun _ h => (by cases h), fun _ => nI_pos' (by omega)⟩⟩
theorem cq_le {Q K : Nat → Bool} (h : ∀ x, K x = true → Q x = true) (n : Nat) : cq K n ≤ cq Q n := sm_le (fun j _ => by
  by_cases q : K j = true
  · rw [if_pos q, if_pos (h j q)]; exact Nat.le_refl 1
  · rw [if_neg q]; exact Nat.zero_le _)
theorem keep_eq {k : Nat} {S P : Nat → Nat} (h6 : hp6 k P) {s : Nat} (hs : s ≤ 4) (hS : ∀ j, j < k → S j < 256) {law : Nat} (hl : law < 3) {an du mh v : Nat → Int32} (ha : ∀ g, 1 ≤ g → g < 2 ^ k → an g = nI (gAn S k g) ∧ du g = nI (due k S P s g)) (hv : ∀ j, j < k → v j = nI (S j)) (h0 : mh 0 = 0) {Lw : Nat → Bool} {row : Nat → Int32} (hr : rowIs row (qs s Lw) 256) (b0 g0 : Int32) : ∃ b2 g2 mh2 row2, f_X0_keepThoseThatHold (nI law) (nI (2 ^ k)) b0 g0 (nI (cq (qs s Lw) 256)) an du mh v row = some (b2, g2, nI (cq (kq law k S P s Lw) 256), mh2, row2) ∧ mh2 0 = 0 ∧ rowIs row2 (kq law k S P s Lw) 256 := by
  have hsub : ∀ x, kq law k S P s Lw x = true → qs s Lw x = true := fun x h => (kq_t.mp h).1
  have h70 := cq_70 (s := s) (by omega) Lw
  have h1 := down (n := 256) (Pr := fun x => ∀ m (b0 g0 : Int32) (mh row : Nat → Int32), cq (qs s Lw) 256 - cq (qs s Lw) x < m → mh 0 = 0 → (∀ y, y < x → kq law k S P s Lw y = true → row (cq (kq law k S P s Lw) y) = nI y) → (∀ y, x ≤ y → y < 256 → qs s Lw y = true → row (cq (qs s Lw) y) = nI y) → ∃ b2 g2 mh2 row2, lp_X0_keepThoseThatHold_5 (nI law) (nI (2 ^ k)) (nI (cq (qs s Lw) 256)) an du v m (nI (cq (kq law k S P s Lw) x)) (nI (cq (qs s Lw) x)) b0 g0 mh row = some (nI (cq (kq law k S P s Lw) 256), b2, g2, mh2, row2) ∧ mh2 0 = 0 ∧ rowIs row2 (kq law k S P s Lw) 256)
    (fun m b0 g0 mh row hm hz a1 _ => by
      obtain ⟨m, rfl⟩ : ∃ z, m = z + 1 := ⟨m - 1, by omega⟩
      exact ⟨b0, g0, mh, row, by rw [lp_X0_keepThoseThatHold_5, if_pos ((le256 (by omega) (by omega)).mpr (Nat.le_refl _))], hz, a1⟩)
    (fun x hx ih m b0 g0 mh row hm hz a1 a2 => by
      by_cases q : qs s Lw x = true
      · obtain ⟨m, rfl⟩ : ∃ z, m = z + 1 := ⟨m - 1, by omega⟩
        have hlt := cq_lt (Q := qs s Lw) hx q
        have hc : cq (qs s Lw) (x + 1) = cq (qs s Lw) x + 1 := by rw [cq_s, if_pos q]
        have hkq := cq_le hsub x
        obtain ⟨mh2, e1, e2⟩ := seek_eq h6 hs hS hl hx ha hv hz b0 g0
        have hsz := szE_neg (hasL_le law S x k) (brc law k S P s x)
        rw [lp_X0_keepThoseThatHold_5, if_neg (by rw [le256 (by omega) (by omega)]; omega), if_pos (ob_inN (by omega) (by decide)), nI_clamp (by omega), a2 x (Nat.le_refl x) hx q, e1, ob_sb]
        dsimp only
        by_cases q2 : brc law k S P s x = none
        · have hk : kq law k S P s Lw x = true := kq_t.mpr ⟨q, q2⟩
          have hck : cq (kq law k S P s Lw) (x + 1) = cq (kq law k S P s Lw) x + 1 := by rw [cq_s, if_pos hk]
          rw [if_pos (hsz.1.mpr q2), if_pos (ob_inN (by omega) (by decide)), if_pos (ob_inN (by omega) (by decide)), nI_clamp (by omega), nI_1, nI_1, ← hc, ← hck]
          refine ih m _ _ mh2 _ (by omega) e2 (fun y hy hky => ?_) (fun y hy1 hy2 hqy => ?_)
          · rcases Nat.lt_or_ge y x with g | g
            · have := cq_lt (Q := kq law k S P s Lw) g hky
              rw [pk_un (by omega), a1 y g hky]
            · obtain rfl : y = x := by omega
              rw [pk_us]
          · have h3 := cq_mono (qs s Lw) (m := x + 1) (n := y) hy1
            rw [pk_un (by omega), a2 y (by omega) hy2 hqy]
        · have hck : cq (kq law k S P s Lw) (x + 1) = cq (kq law k S P s Lw) x := by rw [cq_s, if_neg (fun z => q2 (kq_t.mp z).2), Nat.add_zero]
          rw [if_neg (fun z => q2 (hsz.1.mp z)), nI_1, ← hc, ← hck]
          refine ih m _ _ mh2 row (by omega) e2 (fun y hy hky => ?_) (fun y hy1 hy2 hqy => a2 y (by omega) hy2 hqy)
          rcases Nat.lt_or_ge y x with g | g
          · exact a1 y g hky
          · obtain rfl : y = x := by omega
            exact absurd (kq_t.mp hky).2 q2
      · have hc : cq (qs s Lw) (x + 1) = cq (qs s Lw) x := by rw [cq_s, if_neg q, Nat.add_zero]
        have hck : cq (kq law k S P s Lw) (x + 1) = cq (kq law k S P s Lw) x := by rw [cq_s, if_neg (fun z => q (hsub x z)), Nat.add_zero]
        have := ih m b0 g0 mh row (by omega) hz (fun y hy hky => by
          rcases Nat.lt_or_ge y x with g | g
          · exact a1 y g hky
          · obtain rfl : y = x := by omega
            exact absurd (hsub y hky) q) (fun y hy1 hy2 hqy => a2 y (by omega) hy2 hqy)
        rw [hc, hck] at this
        exact this)
  obtain ⟨b2, g2, mh2, row2, e1, e2, e3⟩ := h1 FU b0 g0 mh row (by unfold FU; omega) h0 (fun y hy => by omega) (fun y _ hy hq => hr y hy hq)
  refine ⟨b2, g2, mh2, row2, ?_, e2, e3⟩
  unfold f_X0_keepThoseThatHold
  rw [show lp_X0_keepThoseThatHold_5 (nI law) (nI (2 ^ k)) (nI (cq (qs s Lw) 256)) an du v FU (0 : Int32) (0 : Int32) b0 g0 mh row = _ from e1]
  rfl
theorem isKept_eq {cnt : Int32} {sets papers : Nat → Int32} {k : Nat} {S P : Nat → Nat} (h : hp cnt sets papers k S P) (h6 : hp6 k P) {vm : Int32} {hs : Nat → Int32} {Lw : Nat → Bool} (hB : ∀ x, x < 256 → ∃ r, f_X11_barOf (nI x) vm hs = some r ∧ (Lw x = true → r < 0 ∧ ¬ 0 ≤ r) ∧ (¬ Lw x = true → 0 ≤ r ∧ ¬ r < 0)) {law x s : Nat} (hlaw : law < 3) (hx : x < 256) (hs4 : s ≤ 4) (bg : Int32) : ∃ bg2, f_X11_isKept (nI law) (nI x) cnt (nI s) vm bg hs papers sets = some (if kq law k S P s Lw x = true then 1 else 0, bg2) := by
  obtain ⟨r, b1, b2, b3⟩ := hB x hx
  have hsz := szE_neg (hasL_le law S x k) (brc law k S P s x)
  unfold f_X11_isKept
  rw [isComm_eq hx (by omega), ob_sb, b1, ob_sb, breachOf_eq h h6 hlaw hx hs4, ob_sb]
  dsimp only
  by_cases q : pc8 x = s
  · rw [if_pos q, if_neg (by decide)]
    by_cases q2 : Lw x = true
    · rw [if_neg (b2 q2).2]
      by_cases q3 : brc law k S P s x = none
      · exact ⟨_, by rw [if_neg (fun z => (hsz.2.mp z) q3), if_pos (kq_t.mpr ⟨qs_t.mpr ⟨q, q2⟩, q3⟩)]⟩
      · exact ⟨_, by rw [if_pos (hsz.2.mpr q3), if_neg (fun z => q3 (kq_t.mp z).2)]⟩
    · exact ⟨_, by rw [if_pos (b3 q2).1, if_neg (fun z => q2 (qs_t.mp (kq_t.mp z).1).2)]⟩
  · exact ⟨_, by rw [if_neg q, if_pos rfl, if_neg (fun z => q (qs_t.mp (kq_t.mp z).1).1)]⟩
theorem andn_I (a b : Int32) : a &&& (b ^^^ (-1 : Int32)) = a ^^^ (a &&& b) := by
  apply Int32.toBitVec_inj.mp
  rw [Int32.toBitVec_and, Int32.toBitVec_xor, Int32.toBitVec_xor, Int32.toBitVec_and]
  apply BitVec.eq_of_getLsbD_eq
  intro i hi
  rw [BitVec.getLsbD_and, BitVec.getLsbD_xor, BitVec.getLsbD_xor, BitVec.getLsbD_and]
  have : (-1 : Int32).toBitVec.getLsbD i = true := by
    have h : (-1 : Int32).toBitVec = BitVec.allOnes 32 := by decide
    rw [h, BitVec.getLsbD_allOnes]
    simp [hi]
  rw [this]
  cases a.toBitVec.getLsbD i <;> cases b.toBitVec.getLsbD i <;> rfl
theorem andn_eq (x y : Nat) : nI x &&& (nI y ^^^ (-1 : Int32)) = nI (x ^^^ (x &&& y)) := by rw [andn_I, fa_and, fb_xorI]
theorem xor_lt8 {x y : Nat} (hx : x < 256) : x ^^^ (x &&& y) < 256 := Nat.xor_lt_two_pow (n := 8) hx (and_lt8 hx)
abbrev oth (y x : Nat) : Nat := pc8 (x ^^^ (x &&& y))
theorem closest_eq {Q : Nat → Bool} (hQ : cq Q 256 ≤ 70) {row : Nat → Int32} (hr : rowIs row Q 256) {y : Nat} : f_X0_closestTo (nI y) (nI (cq Q 256)) row = some (encN (amq Q (gtW (oth y)) 256)) := by
  have hW : ∀ z, oth y z < 2 ^ 31 := fun z => by
    have := pc8_le (z ^^^ (z &&& y))
    unfold oth
    omega
  have h1 := down (n := 256) (Pr := fun x => ∀ m (y3 : Int32), cq Q 256 - cq Q x < m → (∀ b, amq Q (gtW (oth y)) x = some b → y3 = nI (oth y b)) → lp_X0_closestTo_8 (nI y) (nI (cq Q 256)) row m (encN (amq Q (gtW (oth y)) x)) y3 (nI (cq Q x)) = some (encN (amq Q (gtW (oth y)) 256)))
    (fun m y3 hm _ => by
      obtain ⟨m, rfl⟩ : ∃ z, m = z + 1 := ⟨m - 1, by omega⟩
      rw [lp_X0_closestTo_8, if_pos ((le256 (by omega) (by omega)).mpr (Nat.le_refl _))])
    (fun x hx ih m y3 hm hy => by
      by_cases q : Q x = true
      · obtain ⟨m, rfl⟩ : ∃ z, m = z + 1 := ⟨m - 1, by omega⟩
        have hlt := cq_lt (Q := Q) hx q
        have hc : cq Q (x + 1) = cq Q x + 1 := by rw [cq_s, if_pos q]
        rw [lp_X0_closestTo_8, if_neg (by rw [le256 (by omega) (by omega)]; omega), if_pos (ob_inN (by omega) (by decide)), nI_clamp (by omega), hr x hx q, andn_eq, bitCount_8 _ (xor_lt8 hx), ob_sb, nI_1, ← hc]
        have new : amq Q (gtW (oth y)) (x + 1) = some x → (if ob_in (nI (cq Q x)) 70 = true then lp_X0_closestTo_8 (nI y) (nI (cq Q 256)) row m (nI x) (nI (oth y x)) (nI (cq Q (x + 1))) else none) = some (encN (amq Q (gtW (oth y)) 256)) := fun hn => by
          rw [if_pos (ob_inN (by omega) (by decide))]
          have := ih m (nI (oth y x)) (by omega) (fun b hb => by rw [hn] at hb; cases hb; rfl)
          rw [hn] at this
          exact this
        cases e : amq Q (gtW (oth y)) x with
        | none =>
          rw [encN_n, if_pos rfl]
          exact new (by rw [amq_s, e]; dsimp only; rw [if_pos q])
        | some b =>
          have hb := amq_in e
          have hyb := hy b e
          subst hyb
          rw [encN_s, if_neg (nI_ne6 (by omega))]
          by_cases g : oth y x < oth y b
          · rw [if_neg (by rw [nI_leI (hW _) (hW _)]; omega)]
            exact new (by rw [amq_s, e]; dsimp only; rw [if_pos ⟨q, by simp [g]⟩])
          · rw [if_pos (by rw [nI_leI (hW _) (hW _)]; omega)]
            have hn : amq Q (gtW (oth y)) (x + 1) = some b := by rw [amq_s, e]; dsimp only; rw [if_neg (fun z => g (by simpa using z.2))]
            have := ih m (nI (oth y b)) (by omega) (fun b' hb' => by rw [hn] at hb'; cases hb'; rfl)
            rw [hn] at this
            exact this
      · have hc : cq Q (x + 1) = cq Q x := by rw [cq_s, if_neg q, Nat.add_zero]
        have ih' := ih m y3 (by omega) (fun b hb => hy b (by rw [amq_no q] at hb; exact hb))
        rw [hc, amq_no q] at ih'
        exact ih')
  unfold f_X0_closestTo
  exact bind_id (h1 FU 0 (by unfold FU; omega) (fun b hb => by cases hb))
theorem nearM_eq {cnt : Int32} {sets papers : Nat → Int32} {k : Nat} {S P : Nat → Nat} (h : hp cnt sets papers k S P) (h6 : hp6 k P) {vm : Int32} {hs : Nat → Int32} {Lw : Nat → Bool} (hB : ∀ x, x < 256 → ∃ r, f_X11_barOf (nI x) vm hs = some r ∧ (Lw x = true → r < 0 ∧ ¬ 0 ≤ r) ∧ (¬ Lw x = true → 0 ≤ r ∧ ¬ r < 0)) {law y s : Nat} (hlaw : law < 3) (hs4 : s ≤ 4) (bg : Int32) : ∃ bg2, lp_X11_nearest_26 (nI law) (nI y) cnt (nI s) vm hs papers sets FU (-6 : Int32) (0 : Int32) bg = some (encN (amq (kq law k S P s Lw) (gtW (oth y)) 256), bg2) := by
  have hW : ∀ z, oth y z < 2 ^ 31 := fun z => by
    have := pc8_le (z ^^^ (z &&& y))
    unfold oth
    omega
  have h1 := up0 (k := 256) (fun n x => ∀ bg : Int32, ∃ bg2, lp_X11_nearest_26 (nI law) (nI y) cnt (nI s) vm hs papers sets n (encN (amq (kq law k S P s Lw) (gtW (oth y)) x)) (nI x) bg = some (encN (amq (kq law k S P s Lw) (gtW (oth y)) 256), bg2)) (by omega)
    (fun n bg => ⟨bg, by rw [lp_X11_nearest_26, if_pos (by decide)]⟩)
    (fun n x hx ih bg => by
      obtain ⟨bg1, e1⟩ := isKept_eq h h6 hB hlaw hx hs4 bg
      rw [lp_X11_nearest_26, if_neg (by rw [show (256 : Int32) = nI 256 from rfl, nI_leI (by omega) (by omega)]; omega), e1, ob_sb, nI_1, andn_eq, bits_8 _ (xor_lt8 hx), ob_sb]
      dsimp only
      cases e : amq (kq law k S P s Lw) (gtW (oth y)) x with
      | none =>
        rw [encN_n, if_pos nI_6neg]
        by_cases q : kq law k S P s Lw x = true
        · have hn : amq (kq law k S P s Lw) (gtW (oth y)) (x + 1) = some x := by rw [amq_s, e]; dsimp only; rw [if_pos q]
          rw [hn] at ih
          rw [if_pos q, if_neg (by decide)]
          exact ih bg1
        · rw [amq_no q, e] at ih
          rw [if_neg q, if_pos rfl]
          exact ih bg1
      | some b =>
        have hb := amq_in e
        rw [encN_s, if_neg (nI_nneg (by omega)), andn_eq, bits_8 _ (xor_lt8 (show b < 256 by omega)), ob_sb]
        by_cases g : oth y x < oth y b
        · rw [if_neg (show ¬ nI (oth y b) ≤ nI (oth y x) by rw [nI_leI (hW _) (hW _)]; omega)]
          by_cases q : kq law k S P s Lw x = true
          · have hn : amq (kq law k S P s Lw) (gtW (oth y)) (x + 1) = some x := by rw [amq_s, e]; dsimp only; rw [if_pos ⟨q, by simp [g]⟩]
            rw [hn] at ih
            rw [if_pos q, if_neg (by decide)]
            exact ih bg1
          · rw [amq_no q, e] at ih
            rw [if_neg q, if_pos rfl]
            exact ih bg1
        · rw [if_pos (show nI (oth y b) ≤ nI (oth y x) by rw [nI_leI (hW _) (hW _)]; omega)]
          have hn : amq (kq law k S P s Lw) (gtW (oth y)) (x + 1) = some b := by rw [amq_s, e]; dsimp only; rw [if_neg (fun z => g (by simpa using z.2))]
          rw [hn] at ih
          exact ih bg)
  exact h1 bg
/-- KEPT, by the reference's count -/
theorem keptM_no {cnt : Int32} {sets papers : Nat → Int32} {k : Nat} {S P : Nat → Nat} (h : hp cnt sets papers k S P) (h6 : hp6 k P) {vm : Int32} {hs : Nat → Int32} {Lw : Nat → Bool} (hB : ∀ x, x < 256 → ∃ r, f_X11_barOf (nI x) vm hs = some r ∧ (Lw x = true → r < 0 ∧ ¬ 0 ≤ r) ∧ (¬ Lw x = true → 0 ≤ r ∧ ¬ r < 0)) {law s : Nat} (hlaw : law < 3) (hs4 : s ≤ 4) {y2 : Int32} (hy : ∀ x, x < 256 → kq law k S P s Lw x = true → ¬ nI (cq (kq law k S P s Lw) x) = y2) (kk : Int32 × Int32 → Option (Int32 × Int32)) (bg : Int32) : ∃ bg2, lp_X11_kept_14 (nI law) y2 cnt (nI s) vm hs papers sets kk FU (0 : Int32) (0 : Int32) bg = kk (nI (cq (kq law k S P s Lw) 256), bg2) := by
  have h1 := up0 (k := 256) (fun n x => ∀ bg : Int32, ∃ bg2, lp_X11_kept_14 (nI law) y2 cnt (nI s) vm hs papers sets kk n (nI (cq (kq law k S P s Lw) x)) (nI x) bg = kk (nI (cq (kq law k S P s Lw) 256), bg2)) (by omega)
    (fun n bg => ⟨bg, by rw [lp_X11_kept_14, if_pos (by decide)]⟩)
    (fun n x hx ih bg => by
      obtain ⟨bg1, e1⟩ := isKept_eq h h6 hB hlaw hx hs4 bg
      rw [lp_X11_kept_14, if_neg (by rw [show (256 : Int32) = nI 256 from rfl, nI_leI (by omega) (by omega)]; omega), e1, ob_sb, nI_1, nI_1]
      dsimp only
      rw [cq_s] at ih
      by_cases q : kq law k S P s Lw x = true
      · rw [if_pos q] at ih
        rw [if_pos q, if_neg (by decide), if_neg (hy x hx q)]
        exact ih bg1
      · rw [if_neg q, Nat.add_zero] at ih
        rw [if_neg q, if_pos rfl]
        exact ih bg1)
  exact h1 bg
theorem keptM_yes {cnt : Int32} {sets papers : Nat → Int32} {k : Nat} {S P : Nat → Nat} (h : hp cnt sets papers k S P) (h6 : hp6 k P) {vm : Int32} {hs : Nat → Int32} {Lw : Nat → Bool} (hB : ∀ x, x < 256 → ∃ r, f_X11_barOf (nI x) vm hs = some r ∧ (Lw x = true → r < 0 ∧ ¬ 0 ≤ r) ∧ (¬ Lw x = true → 0 ≤ r ∧ ¬ r < 0)) {law s : Nat} (hlaw : law < 3) (hs4 : s ≤ 4) {z : Nat} (hz : z < 256) (hzq : kq law k S P s Lw z = true) (kk : Int32 × Int32 → Option (Int32 × Int32)) (bg : Int32) : ∃ bg2, lp_X11_kept_14 (nI law) (nI (cq (kq law k S P s Lw) z)) cnt (nI s) vm hs papers sets kk FU (0 : Int32) (0 : Int32) bg = some (nI z, bg2) := by
  have hcz : ∀ x, x ≤ 256 → cq (kq law k S P s Lw) x ≤ 256 := fun x hx => by
    have h2 : cq (kq law k S P s Lw) x ≤ sm (fun _ => 1) x := sm_le (fun j _ => by split <;> omega)
    have h3 : ∀ n, sm (fun _ => 1) n = n := by
      intro n
      induction n with
      | zero => rfl
      | succ n ih => rw [sm_s, ih]
    rw [h3] at h2
    omega
  have h1 := up_ind (k := z) (Pr := fun n x => ∀ bg : Int32, ∃ bg2, lp_X11_kept_14 (nI law) (nI (cq (kq law k S P s Lw) z)) cnt (nI s) vm hs papers sets kk n (nI (cq (kq law k S P s Lw) x)) (nI x) bg = some (nI z, bg2))
    (fun n bg => by
      obtain ⟨bg1, e1⟩ := isKept_eq h h6 hB hlaw hz hs4 bg
      refine ⟨bg1, ?_⟩
      rw [lp_X11_kept_14, if_neg (by rw [show (256 : Int32) = nI 256 from rfl, nI_leI (by omega) (by omega)]; omega), e1, ob_sb]
      dsimp only
      rw [if_pos hzq, if_neg (by decide), if_pos rfl])
    (fun n x hx ih bg => by
      obtain ⟨bg1, e1⟩ := isKept_eq h h6 hB hlaw (show x < 256 by omega) hs4 bg
      rw [lp_X11_kept_14, if_neg (by rw [show (256 : Int32) = nI 256 from rfl, nI_leI (by omega) (by omega)]; omega), e1, ob_sb, nI_1, nI_1]
      dsimp only
      rw [cq_s] at ih
      by_cases q : kq law k S P s Lw x = true
      · have hlt := cq_lt (Q := kq law k S P s Lw) hx q
        have c1 := hcz x (by omega)
        have c2 := hcz z (by omega)
        rw [if_pos q] at ih
        rw [if_pos q, if_neg (by decide), if_neg (by rw [nI_eq (by omega) (by omega)]; omega)]
        exact ih bg1
      · rw [if_neg q, Nat.add_zero] at ih
        rw [if_neg q, if_pos rfl]
        exact ih bg1) FU 0 (by omega) (by unfold FU; omega)
  exact h1 bg
