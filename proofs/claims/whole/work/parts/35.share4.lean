/-! SHARE: the steps one after the other -/
/-- chosen, lower, upper, how many were paid -/
def sst (k : Nat) (S P : Nat → Nat) (s : Nat) : Nat → Nat × Nat × (Nat → Nat) × Nat
  | 0 => (0, 1, fun _ => s, 0)
  | r + 1 => match ac k S P (sst k S P s r).1 (sst k S P s r).2.1 (sst k S P s r).2.2.1 8 with
    | some b => ((sst k S P s r).1 ||| 2 ^ b, (sst k S P s r).2.1 * pys k S P (sst k S P s r).2.1 (sst k S P s r).2.2.1 b, pu k S (sst k S P s r).2.2.1 (rho k S P (sst k S P s r).2.1 (sst k S P s r).2.2.1 b) (pys k S P (sst k S P s r).2.1 (sst k S P s r).2.2.1 b) b, (sst k S P s r).2.2.2 + 1)
    | none => ((sst k S P s r).1 ||| 2 ^ (pkM k S P (sst k S P s r).1), (sst k S P s r).2.1, (sst k S P s r).2.2.1, (sst k S P s r).2.2.2)
abbrev sac (k : Nat) (S P : Nat → Nat) (s r : Nat) : Option Nat := ac k S P (sst k S P s r).1 (sst k S P s r).2.1 (sst k S P s r).2.2.1 8
def pkS (k : Nat) (S P : Nat → Nat) (s r : Nat) : Nat := match sac k S P s r with
  | some b => b
  | none => pkM k S P (sst k S P s r).1
theorem sst_some {k : Nat} {S P : Nat → Nat} {s r b : Nat} (h : sac k S P s r = some b) : sst k S P s (r + 1) = ((sst k S P s r).1 ||| 2 ^ b, (sst k S P s r).2.1 * pys k S P (sst k S P s r).2.1 (sst k S P s r).2.2.1 b, pu k S (sst k S P s r).2.2.1 (rho k S P (sst k S P s r).2.1 (sst k S P s r).2.2.1 b) (pys k S P (sst k S P s r).2.1 (sst k S P s r).2.2.1 b) b, (sst k S P s r).2.2.2 + 1) := by
  rw [sst, show ac k S P (sst k S P s r).1 (sst k S P s r).2.1 (sst k S P s r).2.2.1 8 = some b from h]
theorem sst_none {k : Nat} {S P : Nat → Nat} {s r : Nat} (h : sac k S P s r = none) : sst k S P s (r + 1) = ((sst k S P s r).1 ||| 2 ^ (pkM k S P (sst k S P s r).1), (sst k S P s r).2.1, (sst k S P s r).2.2.1, (sst k S P s r).2.2.2) := by
  rw [sst, show ac k S P (sst k S P s r).1 (sst k S P s r).2.1 (sst k S P s r).2.2.1 8 = none from h]
theorem pkS_some {k : Nat} {S P : Nat → Nat} {s r b : Nat} (h : sac k S P s r = some b) : pkS k S P s r = b := by unfold pkS; rw [h]
theorem pkS_none {k : Nat} {S P : Nat → Nat} {s r : Nat} (h : sac k S P s r = none) : pkS k S P s r = pkM k S P (sst k S P s r).1 := by unfold pkS; rw [h]
theorem sst_ok {cnt : Int32} {sets papers : Nat → Int32} {k : Nat} {S P : Nat → Nat} (h : hp cnt sets papers k S P) {s : Nat} (hs : s ≤ 4) : ∀ r, r ≤ 8 → (sst k S P s r).1 < 256 ∧ pc8 (sst k S P s r).1 = r ∧ (sst k S P s r).2.1 ≤ 600 ^ r ∧ (∀ j, (sst k S P s r).2.2.1 j ≤ 4 * 600 ^ r) ∧ (sst k S P s r).2.2.2 ≤ r
  | 0, _ => ⟨(by decide : (0 : Nat) < 256), (by decide : pc8 0 = 0), (by decide : 1 ≤ 600 ^ 0), fun j => hs, Nat.le_refl 0⟩
  | r + 1, hr => by
    obtain ⟨h1, h2, h3, h4, h5⟩ := sst_ok h hs r (by omega)
    have hpow : 600 ^ (r + 1) = 600 ^ r * 600 := Nat.pow_succ 600 r
    have hpos : 600 ^ r ≤ 600 ^ r * 600 := Nat.le_mul_of_pos_right _ (by omega)
    cases e : sac k S P s r with
    | none =>
      obtain ⟨g1, g2⟩ := pkM_ok k S P _ h1 (by omega)
      rw [sst_none e, hpow]
      refine ⟨or_pow_lt _ h1 _ g1, by rw [pc8_or _ h1 _ g1 g2, h2], Nat.le_trans h3 hpos, fun j => Nat.le_trans (h4 j) (Nat.mul_le_mul_left 4 hpos), Nat.le_trans h5 (Nat.le_succ r)⟩
    | some b =>
      obtain ⟨g1, g2, g3⟩ := ac_in e
      obtain ⟨b1, b2, b3⟩ := rho_b h g3
      rw [sst_some e, hpow]
      refine ⟨or_pow_lt _ h1 _ g1, by rw [pc8_or _ h1 _ g1 g2, h2], Nat.mul_le_mul h3 b2, fun j => ?_, Nat.succ_le_succ h5⟩
      dsimp only
      have h6 : (sst k S P s r).2.2.1 j * pys k S P (sst k S P s r).2.1 (sst k S P s r).2.2.1 b ≤ 4 * 600 ^ r * 600 := Nat.mul_le_mul (h4 j) b2
      rw [Nat.mul_assoc] at h6
      unfold pu
      split
      · exact Nat.le_trans (Nat.sub_le _ _) h6
      · exact h6
theorem su_le2 {k : Nat} {S P u : Nat → Nat} {M : Nat} (hP : sm P k ≤ 600) (hM : ∀ j, u j ≤ M) (c : Nat) : su k S P u c ≤ M * 600 := by
  have h1 : su k S P u c ≤ sm (fun j => M * P j) k := sm_le (fun j _ => by
    have h2 : bt (S j) c * P j ≤ P j := by rcases bt_01 (S j) c with q | q <;> rw [q] <;> omega
    calc bt (S j) c * P j * u j ≤ P j * M := Nat.mul_le_mul h2 (hM j)
      _ = M * P j := Nat.mul_comm _ _)
  rw [sm_mulL] at h1
  exact Nat.le_trans h1 (Nat.mul_le_mul_left M hP)
/-- bounds of a step's numbers -/
theorem sst_B {cnt : Int32} {sets papers : Nat → Int32} {k : Nat} {S P : Nat → Nat} (h : hp cnt sets papers k S P) {s : Nat} (hs : s ≤ 4) {r : Nat} (hr : r ≤ 3) : (∀ j, (sst k S P s r).2.2.1 j ≤ 10000000000000) ∧ sm P k * (sst k S P s r).2.1 ≤ 10000000000000000 ∧ ∀ c, su k S P (sst k S P s r).2.2.1 c < 2 ^ 63 := by
  obtain ⟨-, -, h3, h4, -⟩ := sst_ok h hs r (by omega)
  have h6 : 600 ^ r ≤ 600 ^ 3 := Nat.pow_le_pow_right (by decide) hr
  have h7 : ∀ j, (sst k S P s r).2.2.1 j ≤ 4 * 600 ^ 3 := fun j => Nat.le_trans (h4 j) (Nat.mul_le_mul_left 4 h6)
  refine ⟨fun j => Nat.le_trans (h7 j) (by decide), ?_, fun c => ?_⟩
  · exact Nat.le_trans (Nat.mul_le_mul h.2.2.2 (Nat.le_trans h3 h6)) (by decide)
  · exact Nat.lt_of_le_of_lt (su_le2 h.2.2.2 h7 c) (by decide)
theorem bt_or8 : ∀ x, x < 256 → ∀ i, i < 8 → ∀ j, j < 8 → bt (x ||| 2 ^ i) j = 0 → bt x j = 0 := by decide +kernel
/-- who is not to be had stays so -/
theorem sac_stay {cnt : Int32} {sets papers : Nat → Int32} {k : Nat} {S P : Nat → Nat} (h : hp cnt sets papers k S P) {s : Nat} (hs : s ≤ 4) {r : Nat} (hr : r ≤ 7) (e : sac k S P s r = none) : sac k S P s (r + 1) = none := by
  obtain ⟨h1, h2, -, -, -⟩ := sst_ok h hs r (by omega)
  obtain ⟨g1, g2⟩ := pkM_ok k S P _ h1 (by omega)
  unfold sac
  rw [sst_none e]
  exact ac_none_of (fun c hc hb => ac_none e c hc (bt_or8 _ h1 _ g1 c hc hb))
theorem sac_stays {cnt : Int32} {sets papers : Nat → Int32} {k : Nat} {S P : Nat → Nat} (h : hp cnt sets papers k S P) {s : Nat} (hs : s ≤ 4) {r : Nat} (e : sac k S P s r = none) : ∀ n, r + n ≤ 8 → sac k S P s (r + n) = none ∧ (sst k S P s (r + n)).1 = xs (pkM k S P) (sst k S P s r).1 n ∧ (sst k S P s (r + n)).2 = (sst k S P s r).2
  | 0, _ => ⟨e, rfl, rfl⟩
  | n + 1, hn => by
    obtain ⟨h1, h2, h3⟩ := sac_stays h hs e n (by omega)
    refine ⟨?_, ?_, ?_⟩
    · exact sac_stay h hs (r := r + n) (by omega) h1
    · rw [← Nat.add_assoc, sst_none h1, xs_s, ← h2]
    · rw [← Nat.add_assoc, sst_none h1, ← h3]
/-- the class's way -/
theorem byPurses_eq {cnt : Int32} {sets papers : Nat → Int32} {k : Nat} {S P : Nat → Nat} (h : hp cnt sets papers k S P) {s m : Nat} (hs : s ≤ 4) (hm : m ≤ 4) (l0 r0 : Int64) (p0 c0 x0 d0 : Int32) (o : Nat → Int32) (up : Nat → Int64) : ∃ r1 p1 o2 up2, f_X8_byPurses (nI s) (nI m) cnt l0 r0 p0 c0 x0 d0 papers sets o up = some (lN (sst k S P s m).2.1, r1, p1, nI m, nI (sst k S P s m).1, nI (sst k S P s m).2.2.2, o2, up2) ∧ upr up2 0 (sst k S P s m).2.2.1 ∧ ∀ j, j < m → o2 j = nI (pkS k S P s j) := by
  have h1 := up0 (k := m) (fun n i => ∀ (r0 : Int64) (p0 : Int32) (o : Nat → Int32) (up : Nat → Int64), (sst k S P s i).2.2.2 = i → upr up 0 (sst k S P s i).2.2.1 → (∀ j, j < i → o j = nI (pkS k S P s j)) → ∃ r1 p1 o2 up2 i1, lp_X8_byPurses_20 (nI m) cnt papers sets n (nI i) (lN (sst k S P s i).2.1) r0 p0 (nI i) (nI (sst k S P s i).1) (nI i) o up = some (lN (sst k S P s i1).2.1, r1, p1, nI i1, nI (sst k S P s i1).1, nI i1, o2, up2) ∧ (i1 = m ∨ (i1 < m ∧ sac k S P s i1 = none)) ∧ (sst k S P s i1).2.2.2 = i1 ∧ upr up2 0 (sst k S P s i1).2.2.1 ∧ ∀ j, j < i1 → o2 j = nI (pkS k S P s j)) (by omega)
    (fun n r0 p0 o up a0 a1 a2 => ⟨r0, p0, o, up, m, by rw [lp_X8_byPurses_20, if_pos ((le4 (by omega) (by omega)).mpr (Nat.le_refl _))], Or.inl rfl, a0, a1, a2⟩)
    (fun n i hi ih r0 p0 o up a0 a1 a2 => by
      obtain ⟨b1, b2, -, -, -⟩ := sst_ok h hs i (by omega)
      obtain ⟨B1, B2, B3⟩ := sst_B h hs (r := i) (by omega)
      obtain ⟨r1, p1, e1⟩ := cheapest_eq h a1 b1 (fun j => Nat.le_trans (B1 j) (by decide)) B2 B3 r0 p0
      rw [lp_X8_byPurses_20, if_neg (by rw [le4 (by omega) (by omega)]; omega), e1, ob_sb]
      cases e : sac k S P s i with
      | none =>
        have e' : ac k S P (sst k S P s i).1 (sst k S P s i).2.1 (sst k S P s i).2.2.1 8 = none := e
        rw [e']
        dsimp only
        rw [encN_n, if_pos rfl]
        exact ⟨r1, p1, o, up, i, rfl, Or.inr ⟨hi, e⟩, a0, a1, a2⟩
      | some b =>
        have e' : ac k S P (sst k S P s i).1 (sst k S P s i).2.1 (sst k S P s i).2.2.1 8 = some b := e
        obtain ⟨g1, g2, g3⟩ := ac_in e'
        rw [e']
        dsimp only
        rw [encN_s, if_neg (nI_ne6 (by omega))]
        obtain ⟨r2, p2, up1, c1, c2⟩ := pay_eq h a1 g1 B1 B2 g3 r1 p1
        rw [c1, ob_sb, add_eq o g1 (by omega), ob_sb, nI_1]
        dsimp only
        have hss := sst_some e
        obtain ⟨r3, p3, o3, up3, i1, d1, d2, d3, d4, d5⟩ := ih r2 p2 (upd o i (nI b)) up1 (by rw [hss]; show _ + 1 = _; rw [a0]) (by rw [hss]; exact c2) (fun j hj => by
          rcases Nat.lt_or_ge j i with q | q
          · rw [pk_un (by omega), a2 j q]
          · obtain rfl : j = i := by omega
            rw [pk_us, pkS_some e])
        rw [hss] at d1
        exact ⟨r3, p3, o3, up3, i1, d1, d2, d3, d4, d5⟩)
  obtain ⟨upb, b1, b2⟩ := begin6_eq hs up l0
  obtain ⟨r1, p1, o2, up2, i1, e1, e2, e3, e4, e5⟩ := h1 r0 p0 o upb rfl b2 (fun j hj => by omega)
  have him : i1 ≤ m := by omega
  obtain ⟨g1, g2, -, -, -⟩ := sst_ok h hs i1 (by omega)
  obtain ⟨o3, f1, f2, f3⟩ := byHeads_eq h hm him g1 g2 o2
  have fin : (sst k S P s m).1 = xs (pkM k S P) (sst k S P s i1).1 (m - i1) ∧ (sst k S P s m).2 = (sst k S P s i1).2 ∧ ∀ j, j < m - i1 → pkM k S P (xs (pkM k S P) (sst k S P s i1).1 j) = pkS k S P s (i1 + j) := by
    rcases e2 with q | ⟨q, en⟩
    · subst q
      rw [Nat.sub_self]
      exact ⟨rfl, rfl, fun j hj => by omega⟩
    · obtain ⟨-, t2, t3⟩ := sac_stays h hs en (m - i1) (by omega)
      rw [show i1 + (m - i1) = m by omega] at t2 t3
      refine ⟨t2, t3, fun j hj => ?_⟩
      obtain ⟨v1, v2, -⟩ := sac_stays h hs en j (by omega)
      rw [pkS_none v1, v2]
  obtain ⟨fin1, fin2, fin3⟩ := fin
  refine ⟨r1, p1, o3, up2, ?_, by rw [fin2]; exact e4, fun j hj => ?_⟩
  · unfold f_X8_byPurses f_X8_clear
    rw [ob_sb, b1, ob_sb]
    dsimp only
    rw [show lp_X8_byPurses_20 (nI m) cnt papers sets FU (0 : Int32) (lN 1) r0 p0 (0 : Int32) (0 : Int32) (0 : Int32) o upb = _ from e1, ob_sb]
    dsimp only
    rw [f1, ob_sb, fin1, fin2, e3]
  · rcases Nat.lt_or_ge j i1 with q | q
    · rw [f2 j q, e5 j q]
    · have := f3 (j - i1) (by omega)
      rw [show i1 + (j - i1) = j by omega] at this
      rw [this, fin3 (j - i1) (by omega), show i1 + (j - i1) = j by omega]
/-- the reference's step -/
theorem shareOne_eq {cnt : Int32} {sets papers : Nat → Int32} {k : Nat} {S P : Nat → Nat} (h : hp cnt sets papers k S P) {s : Nat} (hs : s ≤ 4) {up low : Nat → Int64} {r : Nat} (hr : r ≤ 3) (hu : upr up (7 * r) (sst k S P s r).2.2.1) (hl : low r = lN (sst k S P s r).2.1) (ch : Nat → Int32) (ru rb : Int64) : ∃ ru2 rb2 up2, f_X11_share (nI r) cnt (nI (sst k S P s r).1) (nI (sst k S P s r).2.2.2) ru rb ch low papers sets up = some (nI (sst k S P s (r + 1)).1, nI (sst k S P s (r + 1)).2.2.2, ru2, rb2, upd ch r (nI (pkS k S P s r)), vp_updL low (r + 1) (lN (sst k S P s (r + 1)).2.1), up2) ∧ upr up2 (7 * (r + 1)) (sst k S P s (r + 1)).2.2.1 ∧ ∀ i, i < 7 * (r + 1) → up2 i = up i := by
  obtain ⟨b1, b2, -, -, -⟩ := sst_ok h hs r (by omega)
  obtain ⟨B1, B2, B3⟩ := sst_B h hs (r := r) (by omega)
  obtain ⟨r1, r2, e1⟩ := share11_eq h hr hu hl b1 (fun j => Nat.le_trans (B1 j) (by decide)) B2 B3 ru rb
  unfold f_X11_share
  rw [e1, ob_sb]
  cases e : sac k S P s r with
  | none =>
    have e' : ac k S P (sst k S P s r).1 (sst k S P s r).2.1 (sst k S P s r).2.2.1 8 = none := e
    rw [e']
    dsimp only
    obtain ⟨g1, g2⟩ := pkM_ok k S P _ b1 (by omega)
    obtain ⟨up1, c1, c2, c3⟩ := carry_eq (t := 1) hr hu hl
    have hpk : encN (am (sst k S P s r).1 (tel k S P) 8) = nI (pkS k S P s r) := by rw [pkS_none e]; exact enc_pk b1 (by omega)
    rw [lN_11, c1, ob_sb, share88_no, ob_sb, if_neg (by decide), if_neg (by decide), most_pick h b1, ob_sb, hpk]
    have g1' : pkS k S P s r < 8 := by rw [pkS_none e]; exact g1
    rw [pick_eq ch g1' (by omega), ob_sb, sst_none e]
    dsimp only
    refine ⟨r1, r2, up1, ?_, fun j hj => ?_, c3⟩
    · rw [Nat.mul_one, pkS_none e, show nI (sst k S P s r).2.2.2 + (0 : Int32) = nI (sst k S P s r).2.2.2 by rw [nI_0', nI_add, Nat.add_zero]]
    · rw [c2 j hj]
      dsimp only
      rw [Nat.mul_one]
  | some b =>
    have e' : ac k S P (sst k S P s r).1 (sst k S P s r).2.1 (sst k S P s r).2.2.1 8 = some b := e
    rw [e']
    dsimp only
    obtain ⟨g1, g2, g3⟩ := ac_in e'
    obtain ⟨y1, y2, y3⟩ := rho_b h g3
    obtain ⟨up1, c1, c2, c3⟩ := carry_eq (t := pys k S P (sst k S P s r).2.1 (sst k S P s r).2.2.1 b) hr hu hl
    obtain ⟨up2, d1, d2, d3⟩ := share88_eq h hr g1 c2 (R := rho k S P (sst k S P s r).2.1 (sst k S P s r).2.2.1 b) (fun j => by
      have := Nat.mul_le_mul (B1 j) y2
      omega) (by omega)
    rw [c1, ob_sb, d1, ob_sb, if_pos (nI_pos' (by omega)), if_pos (nI_pos' (by omega)), pick_eq ch g1 (by omega), ob_sb, sst_some e, pkS_some e, nI_1]
    dsimp only
    refine ⟨r1, r2, up2, rfl, fun j hj => ?_, fun i hi => by rw [d3 i hi, c3 i hi]⟩
    rw [d2 j hj]
    rfl
theorem shareM_eq {cnt : Int32} {sets papers : Nat → Int32} {k : Nat} {S P : Nat → Nat} (h : hp cnt sets papers k S P) {s : Nat} (hs : s ≤ 4) (wo : Nat → Int32) (ru rb : Int64) (ch : Nat → Int32) (low up : Nat → Int64) (hl : low 0 = lN 1) (hu : upr up 0 (fun _ => s)) : ∃ ru2 rb2 ch2 low2 up2, lp_X11_layWay_53 (3 : Int32) cnt (nI s) papers sets wo FU (0 : Int32) (0 : Int32) (0 : Int32) ru rb ch low up = some (nI (sst k S P s s).1, nI (sst k S P s s).2.2.2, ru2, rb2, ch2, low2, up2) ∧ (∀ j, j < s → ch2 j = nI (pkS k S P s j)) ∧ ∀ r, r ≤ s → low2 r = lN (sst k S P s r).2.1 ∧ upr up2 (7 * r) (sst k S P s r).2.2.1 := by
  have h1 := up0 (k := s) (fun n i => ∀ (ru rb : Int64) (ch : Nat → Int32) (low up : Nat → Int64), (∀ j, j < i → ch j = nI (pkS k S P s j)) → (∀ r, r ≤ i → low r = lN (sst k S P s r).2.1 ∧ upr up (7 * r) (sst k S P s r).2.2.1) → ∃ ru2 rb2 ch2 low2 up2, lp_X11_layWay_53 (3 : Int32) cnt (nI s) papers sets wo n (nI i) (nI (sst k S P s i).1) (nI (sst k S P s i).2.2.2) ru rb ch low up = some (nI (sst k S P s s).1, nI (sst k S P s s).2.2.2, ru2, rb2, ch2, low2, up2) ∧ (∀ j, j < s → ch2 j = nI (pkS k S P s j)) ∧ ∀ r, r ≤ s → low2 r = lN (sst k S P s r).2.1 ∧ upr up2 (7 * r) (sst k S P s r).2.2.1) (by omega)
    (fun n ru rb ch low up a1 a2 => ⟨ru, rb, ch, low, up, by rw [lp_X11_layWay_53, if_pos ((le4 (by omega) (by omega)).mpr (Nat.le_refl _))], a1, a2⟩)
    (fun n i hi ih ru rb ch low up a1 a2 => by
      obtain ⟨l1, u1⟩ := a2 i (Nat.le_refl _)
      obtain ⟨ru1, rb1, up1, c1, c2, c3⟩ := shareOne_eq h hs (by omega) u1 l1 ch ru rb
      obtain ⟨ru2, rb2, ch2, low2, up2, e1, e2, e3⟩ := ih ru1 rb1 (upd ch i (nI (pkS k S P s i))) (vp_updL low (i + 1) (lN (sst k S P s (i + 1)).2.1)) up1 (fun j hj => by
        rcases Nat.lt_or_ge j i with q | q
        · rw [pk_un (by omega), a1 j q]
        · obtain rfl : j = i := by omega
          rw [pk_us]) (fun r hr => by
        rcases Nat.lt_or_ge r (i + 1) with q | q
        · refine ⟨by rw [pk_uLn (by omega)]; exact (a2 r (by omega)).1, fun j hj => ?_⟩
          rw [c3 _ (by omega)]
          exact (a2 r (by omega)).2 j hj
        · obtain rfl : r = i + 1 := by omega
          exact ⟨by rw [pk_uLs], c2⟩)
      refine ⟨ru2, rb2, ch2, low2, up2, ?_, e2, e3⟩
      rw [lp_X11_layWay_53, if_neg (by rw [le4 (by omega) (by omega)]; omega), if_neg (by decide), if_neg (by decide), if_neg (by decide), if_neg (by decide), if_neg (by decide), c1, ob_sb, nI_1]
      exact e1)
  exact h1 ru rb ch low up (fun j hj => by omega) (fun r hr => by
    obtain rfl : r = 0 := by omega
    exact ⟨hl, hu⟩)
