/-! load, purse, paid, more: both sides answer alike -/
theorem lst_pos (k : Nat) (S P : Nat → Nat) : ∀ r, 0 < (lst k S P r).2.1
  | 0 => by rw [show (lst k S P 0).2.1 = 1 from rfl]; decide
  | r + 1 => by
    rw [lst_s]
    dsimp only
    refine Nat.mul_pos (lst_pos k S P r) ?_
    unfold lm
    split <;> omega
theorem sst_pos {cnt : Int32} {sets papers : Nat → Int32} {k : Nat} {S P : Nat → Nat} (h : hp cnt sets papers k S P) (s : Nat) : ∀ r, 0 < (sst k S P s r).2.1
  | 0 => by rw [show (sst k S P s 0).2.1 = 1 from rfl]; decide
  | r + 1 => by
    cases e : sac k S P s r with
    | none =>
      rw [sst_none e]
      exact sst_pos h s r
    | some b =>
      rw [sst_some e]
      exact Nat.mul_pos (sst_pos h s r) (rho_b h (ac_in e).2.2).1
theorem refusal_cases {k s : Nat} (hk : k ≤ 6) (hs : s ≤ 4) (x1 x2 x3 : Int32) : (∃ j m b, j < k ∧ m ≤ s ∧ b ≤ 1 ∧ x1 = nI j ∧ x2 = nI m ∧ x3 = nI b ∧ f_X10_refusalOfShare x1 x2 x3 (nI k) (nI s) = some 0 ∧ f_X11_isHeap x1 (nI k) = some 1 ∧ f_X11_in x2 (0 : Int32) (nI s) = some 1 ∧ f_X11_in x3 (0 : Int32) (1 : Int32) = some 1) ∨ (f_X10_refusalOfShare x1 x2 x3 (nI k) (nI s) = some (-1) ∧ f_X11_isHeap x1 (nI k) = some 0) ∨ (f_X10_refusalOfShare x1 x2 x3 (nI k) (nI s) = some (-2) ∧ f_X11_isHeap x1 (nI k) = some 1 ∧ (f_X11_in x2 (0 : Int32) (nI s) = some 0 ∨ (f_X11_in x2 (0 : Int32) (nI s) = some 1 ∧ f_X11_in x3 (0 : Int32) (1 : Int32) = some 0))) := by
  have n10 : ¬ (1 : Int32) = 0 := by decide
  unfold f_X10_refusalOfShare
  rcases isHeap_cases hk x1 with ⟨j, hj, e, i1, i2⟩ | ⟨i1, i2⟩
  · rw [i1, ob_sb, if_neg n10]
    rcases in_cases x2 0 (nI s) with ⟨a1, a2⟩ | ⟨a1, a2⟩
    · obtain ⟨m, m1, m2, rfl⟩ := rngN (lo := 0) (hi := s) (by omega) a1 (by omega)
      rw [if_neg (nI_nneg (by omega)), if_neg (by rw [nI_ltI (by omega) (by omega)]; omega)]
      rcases in_cases x3 0 1 with ⟨b1, b2⟩ | ⟨b1, b2⟩
      · obtain ⟨b, c1, c2, rfl⟩ := rngN (lo := 0) (hi := 1) (by decide) b1 (by decide)
        exact Or.inl ⟨j, m, b, hj, m2, c2, e, rfl, rfl, by rw [if_neg (nI_nneg (by omega)), if_pos b1.2], i2, a2, b2⟩
      · refine Or.inr (Or.inr ⟨?_, i2, Or.inr ⟨a2, b2⟩⟩)
        by_cases z : x3 < 0
        · rw [if_pos z]
        · rw [if_neg z, if_neg (fun y => b1 ⟨fa_of_nlt z, y⟩)]
    · refine Or.inr (Or.inr ⟨?_, i2, Or.inl a2⟩)
      by_cases z : x2 < 0
      · rw [if_pos z]
      · rw [if_neg z, if_pos ?_]
        have z' : ¬ x2.toInt < (0 : Nat) := fun z2 => z ((iLt x2 (n := 0) (by decide)).mpr z2)
        have a1' : ¬ (((0 : Nat) : Int) ≤ x2.toInt ∧ x2.toInt ≤ (s : Nat)) := fun z => a1 ⟨(iGe x2 (n := 0) (by decide)).mpr z.1, (iLe x2 (by omega)).mpr z.2⟩
        refine (iGt x2 (by omega)).mpr ?_
        omega
  · exact Or.inr (Or.inl ⟨by rw [i1, ob_sb, if_pos rfl], i2⟩)
theorem no1 : (-1000000000000000000 : Int64) + ((-1 : Int32)).toInt64 = (-1000000000000000001 : Int64) := by decide
theorem no2 : (-1000000000000000000 : Int64) + ((-2 : Int32)).toInt64 = (-1000000000000000002 : Int64) := by decide
theorem p600 : ∀ r, r ≤ 4 → 600 ^ r ≤ 129600000000 := by decide
theorem op_load {hc : Int32} {hs hq : Nat → Int32} {mc : Int32} {ms mq : Nat → Int32} (h : RH hc hs hq mc ms mq) {ea tg mw : Nat → Int32} (hw : RW ea tg mw) {lc : Int32} {ls lf ld : Nat → Int32} {hm : Int32} {hh : Nat → Int32} (hl : RLn lc ls lf ld hm hh) {sc se : Int32} (hS : RS sc se) (x1 x2 x3 : Int32) (wc wch : Int32) (wll : Int64) (wlu : Nat → Int64) (wor' : Nat → Int32) (cs pa : Int32) (ru rb : Int64) (ch : Nat → Int32) (low up : Nat → Int64) : ∃ q, f_X10_load x1 x2 x3 hc sc wc wch wll hq hs wlu wor' = some q ∧ ∃ r, f_X11_load x1 x2 x3 mc se hm cs pa ru rb ch hh low mq ms up mw = some r ∧ q.1 = r.1 := by
  obtain ⟨k, S, P, h1, h2, hk, hP⟩ := id h
  obtain ⟨w, w1, w2, w3, w4⟩ := id hw
  obtain ⟨t, sg, l1, l2, l3⟩ := id hl
  obtain ⟨s, rfl, rfl, s1, s2⟩ := id hS
  have n10 : ¬ (1 : Int32) = 0 := by decide
  have hc1 := h1.1
  have hc2 := h2.1
  unfold f_X10_load f_X11_load f_X11_behind
  rw [hc1, hc2]
  rcases refusal_cases hk s2 x1 x2 x3 with ⟨j, m, b, hj, hm4, hb, rfl, rfl, rfl, r1, r2, r3, r4⟩ | ⟨r1, r2⟩ | ⟨r1, r2, r3⟩
  · rw [r1, ob_sb, if_pos rfl, r2, ob_sb, if_neg n10, r3, ob_sb, if_neg n10, r4, ob_sb, if_neg n10]
    obtain ⟨up2, o2, e1, e2, -⟩ := byLoads_eq h1 (m := m) (by omega) wll wc wch wlu wor'
    obtain ⟨r, f1, -, -, f4, -⟩ := layWay_eq h2 w2 (w60 w4) (lw_hB l1 l2 l3) s2 (y := 2) (by decide) cs pa ru rb ch low up
    obtain ⟨f5, f6⟩ := f4 rfl m hm4
    rw [hc1] at e1
    rw [hc2] at f1
    rw [e1, ob_sb, show f_X11_layWay (2 : Int32) (nI k) (nI s) hm cs pa ru rb ch hh low mq ms up mw = some r from f1, ob_sb]
    dsimp only
    have ok := lst_ok (S := S) h1.2.2.2 m (by omega)
    have p6 := p600 m (by omega)
    have hlo := ok.2.2.1
    have hu := ok.2.2.2 j
    have h0 := lst_pos k S P m
    have hu2 : (lst k S P m).2.2 j ≤ 1000000000000 := by
      have : m * 600 ^ m ≤ 4 * 129600000000 := Nat.mul_le_mul (by omega) p6
      omega
    rw [lowest5_eq e2 (by omega) hu2 (by omega) h0, ob_sb]
    have ei : (7 : Int32) * nI m + nI j = nI (7 * m + j) := by rw [show (7 : Int32) = nI 7 from rfl, pk_mul, nI_add]
    rw [ei, if_pos (ob_inN (by omega) (by decide)), if_pos (ob_inN (by omega) (by decide)), nI_clamp (by omega), nI_clamp (by omega), f5, f6 j (by omega), term_eq hu2 (by omega) h0]
    exact ⟨_, rfl, _, rfl, rfl⟩
  · rw [r1, ob_sb, if_neg (by decide), r2, ob_sb, if_pos rfl, no1]
    exact ⟨_, rfl, _, rfl, rfl⟩
  · rw [r1, ob_sb, if_neg (by decide), r2, ob_sb, if_neg n10, no2]
    rcases r3 with r3 | ⟨r3, r4⟩
    · rw [r3, ob_sb, if_pos rfl]
      exact ⟨_, rfl, _, rfl, rfl⟩
    · rw [r3, ob_sb, if_neg n10, r4, ob_sb, if_pos rfl]
      exact ⟨_, rfl, _, rfl, rfl⟩
theorem op_purse {hc : Int32} {hs hq : Nat → Int32} {mc : Int32} {ms mq : Nat → Int32} (h : RH hc hs hq mc ms mq) {ea tg mw : Nat → Int32} (hw : RW ea tg mw) {lc : Int32} {ls lf ld : Nat → Int32} {hm : Int32} {hh : Nat → Int32} (hl : RLn lc ls lf ld hm hh) {sc se : Int32} (hS : RS sc se) (x1 x2 x3 : Int32) (wc wch wpc : Int32) (wpl wpr : Int64) (wpp : Int32) (wor' : Nat → Int32) (wpu : Nat → Int64) (cs pa : Int32) (ru rb : Int64) (ch : Nat → Int32) (low up : Nat → Int64) : ∃ q, f_X10_purse x1 x2 x3 hc sc wc wch wpc wpl wpr wpp hq hs wor' wpu = some q ∧ ∃ r, f_X11_purse x1 x2 x3 mc se hm cs pa ru rb ch hh low mq ms up mw = some r ∧ q.1 = r.1 := by
  obtain ⟨k, S, P, h1, h2, hk, hP⟩ := id h
  obtain ⟨w, w1, w2, w3, w4⟩ := id hw
  obtain ⟨t, sg, l1, l2, l3⟩ := id hl
  obtain ⟨s, rfl, rfl, s1, s2⟩ := id hS
  have n10 : ¬ (1 : Int32) = 0 := by decide
  have hc1 := h1.1
  have hc2 := h2.1
  unfold f_X10_purse f_X11_purse f_X11_behind
  rw [hc1, hc2]
  rcases refusal_cases hk s2 x1 x2 x3 with ⟨j, m, b, hj, hm4, hb, rfl, rfl, rfl, r1, r2, r3, r4⟩ | ⟨r1, r2⟩ | ⟨r1, r2, r3⟩
  · rw [r1, ob_sb, if_pos rfl, r2, ob_sb, if_neg n10, r3, ob_sb, if_neg n10, r4, ob_sb, if_neg n10]
    obtain ⟨rr1, pp1, o2, up2, e1, e2, -⟩ := byPurses_eq h1 (s := s) (m := m) s2 (by omega) wpl wpr wpp wc wch wpc wor' wpu
    obtain ⟨r, f1, -, -, -, f4⟩ := layWay_eq h2 w2 (w60 w4) (lw_hB l1 l2 l3) s2 (y := 3) (by decide) cs pa ru rb ch low up
    obtain ⟨f5, f6⟩ := (f4 rfl).2 m hm4
    rw [hc1] at e1
    rw [hc2] at f1
    rw [e1, ob_sb, show f_X11_layWay (3 : Int32) (nI k) (nI s) hm cs pa ru rb ch hh low mq ms up mw = some r from f1, ob_sb]
    dsimp only
    have ok := sst_ok h1 s2 m (by omega)
    have p6 := p600 m (by omega)
    have hlo := ok.2.2.1
    have hu := ok.2.2.2.1 j
    have h0 := sst_pos h1 s m
    have hu2 : (sst k S P s m).2.2.1 j ≤ 1000000000000 := by omega
    rw [lowest6_eq e2 (by omega) hu2 (by omega) h0, ob_sb]
    have ei : (7 : Int32) * nI m + nI j = nI (7 * m + j) := by rw [show (7 : Int32) = nI 7 from rfl, pk_mul, nI_add]
    rw [ei, if_pos (ob_inN (by omega) (by decide)), if_pos (ob_inN (by omega) (by decide)), nI_clamp (by omega), nI_clamp (by omega), f5, f6 j (by omega), term_eq hu2 (by omega) h0]
    exact ⟨_, rfl, _, rfl, rfl⟩
  · rw [r1, ob_sb, if_neg (by decide), r2, ob_sb, if_pos rfl, no1]
    exact ⟨_, rfl, _, rfl, rfl⟩
  · rw [r1, ob_sb, if_neg (by decide), r2, ob_sb, if_neg n10, no2]
    rcases r3 with r3 | ⟨r3, r4⟩
    · rw [r3, ob_sb, if_pos rfl]
      exact ⟨_, rfl, _, rfl, rfl⟩
    · rw [r3, ob_sb, if_neg n10, r4, ob_sb, if_pos rfl]
      exact ⟨_, rfl, _, rfl, rfl⟩
theorem op_paid {hc : Int32} {hs hq : Nat → Int32} {mc : Int32} {ms mq : Nat → Int32} (h : RH hc hs hq mc ms mq) {ea tg mw : Nat → Int32} (hw : RW ea tg mw) {lc : Int32} {ls lf ld : Nat → Int32} {hm : Int32} {hh : Nat → Int32} (hl : RLn lc ls lf ld hm hh) {sc se : Int32} (hS : RS sc se) (wc wch wpc : Int32) (wpl wpr : Int64) (wpp : Int32) (wor' : Nat → Int32) (wpu : Nat → Int64) (cs pa : Int32) (ru rb : Int64) (ch : Nat → Int32) (low up : Nat → Int64) : ∃ q, f_X10_paid hc sc wc wch wpc wpl wpr wpp hq hs wor' wpu = some q ∧ ∃ r, f_X11_paid mc se hm cs pa ru rb ch hh low mq ms up mw = some r ∧ q.1 = r.1 := by
  obtain ⟨k, S, P, h1, h2, hk, hP⟩ := id h
  obtain ⟨w, w1, w2, w3, w4⟩ := id hw
  obtain ⟨t, sg, l1, l2, l3⟩ := id hl
  obtain ⟨s, rfl, rfl, s1, s2⟩ := id hS
  obtain ⟨rr1, pp1, o2, up2, e1, e2, -⟩ := byPurses_eq h1 (s := s) (m := s) s2 s2 wpl wpr wpp wc wch wpc wor' wpu
  obtain ⟨r, f1, -, -, -, f4⟩ := layWay_eq h2 w2 (w60 w4) (lw_hB l1 l2 l3) s2 (y := 3) (by decide) cs pa ru rb ch low up
  unfold f_X10_paid f_X11_paid
  rw [e1, show f_X11_layWay (3 : Int32) mc (nI s) hm cs pa ru rb ch hh low mq ms up mw = some r from f1, ob_sb, ob_sb]
  refine ⟨_, rfl, _, rfl, ?_⟩
  dsimp only
  rw [(f4 rfl).1]
theorem op_more {hc : Int32} {hs hq : Nat → Int32} {mc : Int32} {ms mq : Nat → Int32} (h : RH hc hs hq mc ms mq) {ea tg mw : Nat → Int32} (hw : RW ea tg mw) {lc : Int32} {ls lf ld : Nat → Int32} {hm : Int32} {hh : Nat → Int32} (hl : RLn lc ls lf ld hm hh) {sc se : Int32} (hS : RS sc se) (x1 x2 : Int32) (lac wc wch wpc : Int32) (wll wpl wpr : Int64) (wpp : Int32) (lr : Nat → Int32) (wlu : Nat → Int64) (wor' : Nat → Int32) (wpu : Nat → Int64) (cs pa : Int32) (ru rb : Int64) (ch : Nat → Int32) (low up : Nat → Int64) : ∃ q, f_X10_more x1 x2 hc lac lc sc wc wch wpc wll wpl wpr wpp hq hs lr ld lf ls wlu wor' wpu tg = some q ∧ ∃ r, f_X11_more x1 x2 mc se hm cs pa ru rb ch hh low mq ms up mw = some r ∧ q.1 = r.1 ∧ RS sc r.2.1 := by
  obtain ⟨k, S, P, h1, h2, hk, hP⟩ := id h
  obtain ⟨w, w1, w2, w3, w4⟩ := id hw
  obtain ⟨t, sg, l1, l2, l3⟩ := id hl
  obtain ⟨s, rfl, rfl, s1, s2⟩ := id hS
  have n10 : ¬ (1 : Int32) = 0 := by decide
  unfold f_X10_more f_X11_more
  rcases isWay_cases x1 with ⟨y, hy, rfl, i1, i2⟩ | ⟨i1, i2⟩
  · rw [i1, i2, ob_sb, ob_sb, if_neg n10, if_neg n10]
    rcases in_cases x2 0 1 with ⟨a1, a2⟩ | ⟨a1, a2⟩
    · obtain ⟨m, m1, m2, rfl⟩ := rngN (lo := 0) (hi := 1) (by decide) a1 (by decide)
      rw [if_neg (nI_nneg (by omega)), if_pos a1.2, a2, ob_sb, if_neg n10]
      by_cases g : s = 4
      · subst g
        exact ⟨_, by rw [if_neg (by decide)], _, by rw [if_pos (by decide)], by rfl, by exact hS⟩
      · rw [if_pos (show nI s < (4 : Int32) by rw [show (4 : Int32) = nI 4 from rfl, nI_ltI (by omega) (by omega)]; omega), if_neg (show ¬ nI s = (4 : Int32) by rw [show (4 : Int32) = nI 4 from rfl, nI_eq (by omega) (by omega)]; omega)]
        have es : nI s + (1 : Int32) = nI (s + 1) := nI_1 s
        obtain ⟨q, e1, e2, -⟩ := runWay_eq h1 w3 (w60 w4) (lw_hA l3) s1 s2 hy lac wc wch wpc wll wpl wpr wpp lr wlu wor' wpu
        obtain ⟨r, f1, f2, -⟩ := layWay_eq h2 w2 (w60 w4) (lw_hB l1 l2 l3) s2 hy cs pa ru rb ch low up
        obtain ⟨q', e1', e2', -⟩ := runWay_eq h1 w3 (w60 w4) (lw_hA l3) (s := s + 1) (by omega) (by omega) hy q.1 q.2.1 q.2.2.1 q.2.2.2.1 q.2.2.2.2.1 q.2.2.2.2.2.1 q.2.2.2.2.2.2.1 q.2.2.2.2.2.2.2.1 q.2.2.2.2.2.2.2.2.1 q.2.2.2.2.2.2.2.2.2.1 q.2.2.2.2.2.2.2.2.2.2.1 q.2.2.2.2.2.2.2.2.2.2.2
        obtain ⟨r', f1', f2', -⟩ := layWay_eq h2 w2 (w60 w4) (lw_hB l1 l2 l3) (s := s + 1) (by omega) hy r.1 r.2.1 r.2.2.1 r.2.2.2.1 r.2.2.2.2.1 r.2.2.2.2.2.1 r.2.2.2.2.2.2
        rw [e1, f1, ob_sb, ob_sb, es, e1', f1', ob_sb, ob_sb]
        have eb : nI (s + 1) - (1 : Int32) = nI s := nI_pred s
        by_cases z : nI m = 0
        · refine ⟨_, by rw [if_pos z], _, by rw [if_pos z], ?_, ?_⟩
          · dsimp only
            rw [e2, f2, e2', f2']
          · dsimp only
            rw [eb]
            exact hS
        · refine ⟨_, by rw [if_neg z], _, by rw [if_neg z], ?_, ?_⟩
          · dsimp only
            rw [e2, f2, e2', f2']
          · dsimp only
            rw [eb]
            exact hS
    · rw [a2, ob_sb, if_pos rfl]
      by_cases z : x2 < 0
      · exact ⟨_, by rw [if_pos z], _, rfl, by rfl, by exact hS⟩
      · exact ⟨_, by rw [if_neg z, if_neg (fun y => a1 ⟨fa_of_nlt z, y⟩)], _, rfl, by rfl, by exact hS⟩
  · exact ⟨_, by rw [i1, ob_sb, if_pos rfl], _, by rw [i2, ob_sb, if_pos rfl], by rfl, by exact hS⟩
