/-! owed, breach, kept, least, nearest: both sides answer alike -/
theorem isLaw_cases (x : Int32) : (∃ y, y < 3 ∧ x = nI y ∧ f_X10_isLaw x = some 1 ∧ f_X11_isLaw x = some 1) ∨ (f_X10_isLaw x = some 0 ∧ f_X11_isLaw x = some 0) := by
  rcases in_cases x 0 2 with ⟨a1, a2⟩ | ⟨a1, a2⟩
  · obtain ⟨m, m1, m2, rfl⟩ := rngN (lo := 0) (hi := 2) (by decide) a1 (by decide)
    exact Or.inl ⟨m, by omega, rfl, by rw [isLaw_in, a2], bind_id a2⟩
  · exact Or.inr ⟨by rw [isLaw_in, a2], bind_id a2⟩
/-- what the rows of groups keep at their place 0 -/
def RG (an pp mh : Nat → Int32) : Prop := an 0 = 0 ∧ pp 0 = 0 ∧ mh 0 = 0
theorem hp6_of {k : Nat} {P : Nat → Nat} (hk : k ≤ 6) (hP : ∀ j, j < k → 1 ≤ P j ∧ P j ≤ 100) : hp6 k P := ⟨hk, fun j hj => (hP j hj).1⟩
theorem op_owed {hc : Int32} {hs hq : Nat → Int32} {mc : Int32} {ms mq : Nat → Int32} (h : RH hc hs hq mc ms mq) {sc se : Int32} (hS : RS sc se) {an pp mh : Nat → Int32} (hg : RG an pp mh) (x1 x2 gc : Int32) (cm du gs : Nat → Int32) : ∃ q, f_X10_owed x1 x2 gc hc sc an cm du pp gs hq hs = some q ∧ ∃ r, f_X11_owed x1 x2 mc se mq ms = some r ∧ q.1 = r ∧ RG q.2.2.1 q.2.2.2.2.2.1 mh := by
  obtain ⟨k, S, P, h1, h2, hk, hP⟩ := id h
  obtain ⟨s, rfl, rfl, s1, s2⟩ := id hS
  obtain ⟨g1, g2, g3⟩ := id hg
  have n10 : ¬ (1 : Int32) = 0 := by decide
  have hsh : (1 : Int32) <<< (nI k &&& 31) = nI (2 ^ k) := pb_shl (by omega)
  have p64 := pow_le6 k (by omega)
  have p1 : 1 ≤ 2 ^ k := Nat.one_le_two_pow
  unfold f_X10_owed f_X11_owed
  rcases in_cases x2 1 4 with ⟨a1, a2⟩ | ⟨a1, a2⟩
  · obtain ⟨m, m1, m2, rfl⟩ := rngN (lo := 1) (hi := 4) (by decide) a1 (by decide)
    rw [if_neg (by rw [show (1 : Int32) = nI 1 from rfl, nI_ltI (by omega) (by omega)]; omega), if_neg (by rw [show (4 : Int32) = nI 4 from rfl, nI_ltI (by omega) (by omega)]; omega), a2, ob_sb, if_neg n10, h1.1, h2.1, hsh]
    have e1 : nI (2 ^ k) - (1 : Int32) = nI (2 ^ k - 1) := by rw [show (1 : Int32) = nI 1 from rfl, pk_sub (by omega)]
    rw [e1]
    rcases in_cases x1 1 (nI (2 ^ k - 1)) with ⟨b1, b2⟩ | ⟨b1, b2⟩
    · have k1 : 1 ≤ 2 ^ k - 1 := by
        have c1 := b1.1
        have c2 := b1.2
        rw [fa_le, nI_toInt (by omega)] at c2
        rw [show (1 : Int32) = nI 1 from rfl, fa_le, nI_toInt (by decide)] at c1
        omega
      obtain ⟨g, c1, c2, rfl⟩ := rngN (lo := 1) (hi := 2 ^ k - 1) (by omega) b1 k1
      have h0 : 0 < k := by
        rcases Nat.eq_zero_or_pos k with z | z
        · subst z; rw [Nat.pow_zero] at k1; omega
        · exact z
      have h6 := hp6_of hk hP
      obtain ⟨an2, cm2, du2, pp2, v2, f1, f2, f3, f4, f5⟩ := ggather_eq h1 h6 s2 gc (cm := cm) (du := du) gs g2 g1
      rw [h1.1] at f1
      have o1 := isOwed_eq h2 (hp6_T h6 h0) (g := g) (l := m) (s := s) (by omega) m2 s2
      rw [h2.1] at o1
      rw [if_neg (by rw [show (1 : Int32) = nI 1 from rfl, nI_ltI (by omega) (by omega)]; omega), if_pos (by rw [nI_ltI (by omega) (by omega)]; omega), f1, ob_sb, if_pos (ob_inN (by omega) (by decide)), b2, ob_sb, if_neg n10, o1, ob_sb]
      dsimp only
      rw [nI_clamp (by omega)]
      have hdu := (f2 g c1 (by omega)).2
      have hd := due_le (S := S) (s := s) (g := g) (hp6_T h6 h0)
      by_cases z : m ≤ due k S P s g
      · refine ⟨_, by rw [if_neg (by rw [hdu, nI_ltI (by omega) (by omega)]; omega)], _, by rw [if_pos z, if_neg n10], by rfl, by exact ⟨f3, f4, g3⟩⟩
      · refine ⟨_, by rw [if_pos (by rw [hdu, nI_ltI (by omega) (by omega)]; omega)], _, by rw [if_neg z, if_pos rfl], by rfl, by exact ⟨f3, f4, g3⟩⟩
    · rw [b2, ob_sb, if_pos rfl]
      by_cases z : x1 < 1
      · exact ⟨_, by rw [if_pos z], _, rfl, by rfl, by exact hg⟩
      · have zz : ¬ x1 < nI (2 ^ k) := fun y => by
          rw [iLt x1 (by omega)] at y
          refine b1 ⟨fa_of_nlt z, (iLe x1 (by omega)).mpr ?_⟩
          omega
        exact ⟨_, by rw [if_neg z, if_neg zz], _, rfl, by rfl, by exact hg⟩
  · rw [a2, ob_sb, if_pos rfl]
    by_cases z : x2 < 1
    · exact ⟨_, by rw [if_pos z], _, rfl, by rfl, by exact hg⟩
    · have z' : ¬ x2.toInt < (1 : Nat) := fun z2 => z ((iLt x2 (n := 1) (by decide)).mpr z2)
      have a1' : ¬ (((1 : Nat) : Int) ≤ x2.toInt ∧ x2.toInt ≤ (4 : Nat)) := fun z => a1 ⟨(iGe x2 (n := 1) (by decide)).mpr z.1, (iLe x2 (n := 4) (by decide)).mpr z.2⟩
      have zz : (4 : Int32) < x2 := (iGt x2 (n := 4) (by decide)).mpr (by omega)
      exact ⟨_, by rw [if_neg z, if_pos zz], _, rfl, by rfl, by exact hg⟩
theorem op_breach {hc : Int32} {hs hq : Nat → Int32} {mc : Int32} {ms mq : Nat → Int32} (h : RH hc hs hq mc ms mq) {sc se : Int32} (hS : RS sc se) {an pp mh : Nat → Int32} (hg : RG an pp mh) (x1 x2 x3 gc bz bg : Int32) (cm du gs : Nat → Int32) (mbg : Int32) : ∃ q, f_X10_breach x1 x2 x3 gc bz bg hc sc an cm du mh pp gs hq hs = some q ∧ ∃ r, f_X11_breach x1 x2 x3 mc se mbg mq ms = some r ∧ q.1 = r.1 ∧ RG q.2.2.2.2.1 q.2.2.2.2.2.2.2.2.1 q.2.2.2.2.2.2.2.1 := by
  obtain ⟨k, S, P, h1, h2, hk, hP⟩ := id h
  obtain ⟨s, rfl, rfl, s1, s2⟩ := id hS
  obtain ⟨g1, g2, g3⟩ := id hg
  have n10 : ¬ (1 : Int32) = 0 := by decide
  have h6 := hp6_of hk hP
  have hS8 : ∀ j, j < k → S j < 256 := fun j hj => (h1.2.2.1 j hj).2.1
  unfold f_X10_breach f_X11_breach
  rcases isLaw_cases x1 with ⟨law, hlaw, rfl, i1, i2⟩ | ⟨i1, i2⟩
  · rw [i1, i2, ob_sb, ob_sb, if_neg n10, if_neg n10]
    rcases isCom_cases s1 s2 x2 with ⟨m, hm, -, rfl, j1, j2⟩ | ⟨j1, j2⟩
    · rw [j1, j2, ob_sb, ob_sb, if_neg n10, if_neg n10]
      rcases in_cases x3 0 2 with ⟨a1, a2⟩ | ⟨a1, a2⟩
      · obtain ⟨b, b1, b2, rfl⟩ := rngN (lo := 0) (hi := 2) (by decide) a1 (by decide)
        obtain ⟨an2, cm2, du2, pp2, v2, f1, f2, f3, f4, f5⟩ := ggather_eq h1 h6 s2 gc (cm := cm) (du := du) gs g2 g1
        obtain ⟨mh2, e1, e2⟩ := seek_eq h6 s2 hS8 hlaw hm (mh := mh) f2 f5 g3 bz bg
        have hsz := szE_neg (hasL_le law S m k) (brc law k S P s m)
        rw [if_neg (nI_nneg (by omega)), if_pos a1.2, f1, ob_sb]
        dsimp only
        rw [e1, ob_sb, a2, ob_sb, if_neg n10, breachOf_eq h2 h6 hlaw hm s2, ob_sb]
        dsimp only
        by_cases z0 : nI b = 0
        · rw [if_pos z0, if_pos z0]
          by_cases z : brc law k S P s m = none
          · refine ⟨_, by rw [if_pos (hsz.1.mpr z)], _, by rw [if_neg (fun y => hsz.2.mp y z)], by rfl, by exact ⟨f3, f4, e2⟩⟩
          · refine ⟨_, by rw [if_neg (fun y => z (hsz.1.mp y))], _, by rw [if_pos (hsz.2.mpr z)], by rfl, by exact ⟨f3, f4, e2⟩⟩
        · rw [if_neg z0, if_neg z0]
          by_cases z1 : nI b = 1
          · rw [if_pos z1, if_pos z1]
            exact ⟨_, rfl, _, rfl, rfl, f3, f4, e2⟩
          · rw [if_neg z1, if_neg z1]
            exact ⟨_, rfl, _, rfl, rfl, f3, f4, e2⟩
      · rw [a2, ob_sb, if_pos rfl]
        by_cases z : x3 < 0
        · exact ⟨_, by rw [if_pos z], _, rfl, by rfl, by exact hg⟩
        · exact ⟨_, by rw [if_neg z, if_neg (fun y => a1 ⟨fa_of_nlt z, y⟩)], _, rfl, by rfl, by exact hg⟩
    · exact ⟨_, by rw [j1, ob_sb, if_pos rfl], _, by rw [j2, ob_sb, if_pos rfl], by rfl, by exact hg⟩
  · exact ⟨_, by rw [i1, ob_sb, if_pos rfl], _, by rw [i2, ob_sb, if_pos rfl], by rfl, by exact hg⟩
theorem gatherKept_eq {hc : Int32} {hs hq : Nat → Int32} {k : Nat} {S P : Nat → Nat} (h1 : hp hc hs hq k S P) (h6 : hp6 k P) {lc : Int32} {ls lf ld : Nat → Int32} {Lw : Nat → Bool} (hA : ∀ x, x < 256 → f_X4_allow (nI x) lc ld lf ls = some (if Lw x = true then 1 else 0)) {s : Nat} (s1 : 1 ≤ s) (s2 : s ≤ 4) {an pp mh : Nat → Int32} (hg : RG an pp mh) {law : Nat} (hlaw : law < 3) (gc bz bg lac : Int32) (cm du gs lr : Nat → Int32) : ∃ q, f_X10_gatherKept (nI law) gc bz bg hc lac lc (nI s) an cm du mh pp gs hq hs lr ld lf ls = some q ∧ q.2.2.2.1 = nI (cq (kq law k S P s Lw) 256) ∧ rowIs q.2.2.2.2.2.2.2.2.2.2 (kq law k S P s Lw) 256 ∧ RG q.2.2.2.2.1 q.2.2.2.2.2.2.2.2.1 q.2.2.2.2.2.2.2.1 := by
  obtain ⟨g1, g2, g3⟩ := id hg
  have hS8 : ∀ j, j < k → S j < 256 := fun j hj => (h1.2.2.1 j hj).2.1
  obtain ⟨r2, a1, a2⟩ := gather_eq hA s1 s2 lac lr
  obtain ⟨an2, cm2, du2, pp2, v2, f1, f2, f3, f4, f5⟩ := ggather_eq h1 h6 s2 gc (cm := cm) (du := du) gs g2 g1
  obtain ⟨b3, g3', mh3, row3, e1, e2, e3⟩ := keep_eq h6 s2 hS8 hlaw (mh := mh) f2 f5 g3 a2 bz bg
  unfold f_X10_gatherKept
  rw [a1, ob_sb, f1, ob_sb]
  dsimp only
  rw [e1, ob_sb]
  exact ⟨_, rfl, rfl, e3, f3, f4, e2⟩
theorem cq_ex {Q : Nat → Bool} {m : Nat} : ∀ {n : Nat}, m < cq Q n → ∃ z, z < n ∧ Q z = true ∧ cq Q z = m
  | 0, h => absurd h (Nat.not_lt_zero m)
  | n + 1, h => by
    rw [cq_s] at h
    by_cases q : Q n = true
    · rw [if_pos q] at h
      rcases Nat.lt_or_ge m (cq Q n) with g | g
      · obtain ⟨z, z1, z2, z3⟩ := cq_ex g
        exact ⟨z, by omega, z2, z3⟩
      · exact ⟨n, by omega, q, by omega⟩
    · rw [if_neg q] at h
      obtain ⟨z, z1, z2, z3⟩ := cq_ex (n := n) (by omega)
      exact ⟨z, by omega, z2, z3⟩
theorem kq_70 (law k : Nat) (S P : Nat → Nat) {s : Nat} (hs : s ≤ 8) (Lw : Nat → Bool) : cq (kq law k S P s Lw) 256 ≤ 70 := Nat.le_trans (cq_le (fun x hx => (kq_t.mp hx).1) 256) (cq_70 hs Lw)
theorem op_kept {hc : Int32} {hs hq : Nat → Int32} {mc : Int32} {ms mq : Nat → Int32} (h : RH hc hs hq mc ms mq) {lc : Int32} {ls lf ld : Nat → Int32} {hm : Int32} {hh : Nat → Int32} (hl : RLn lc ls lf ld hm hh) {sc se : Int32} (hS : RS sc se) {an pp mh : Nat → Int32} (hg : RG an pp mh) (x1 x2 gc bz bg lac : Int32) (cm du gs lr : Nat → Int32) (mbg : Int32) : ∃ q, f_X10_kept x1 x2 gc bz bg hc lac lc sc an cm du mh pp gs hq hs lr ld lf ls = some q ∧ ∃ r, f_X11_kept x1 x2 mc se hm mbg hh mq ms = some r ∧ q.1 = r.1 ∧ RG q.2.2.2.2.2.1 q.2.2.2.2.2.2.2.2.2.1 q.2.2.2.2.2.2.2.2.1 := by
  obtain ⟨k, S, P, h1, h2, hk, hP⟩ := id h
  obtain ⟨t, sg, l1, l2, l3⟩ := id hl
  obtain ⟨s, rfl, rfl, s1, s2⟩ := id hS
  have n10 : ¬ (1 : Int32) = 0 := by decide
  have h6 := hp6_of hk hP
  unfold f_X10_kept f_X11_kept
  rcases isLaw_cases x1 with ⟨law, hlaw, rfl, i1, i2⟩ | ⟨i1, i2⟩
  · obtain ⟨q, e1, e2, e3, e4⟩ := gatherKept_eq h1 h6 (lw_hA l3) s1 s2 hg hlaw gc bz bg lac cm du gs lr
    rw [i1, i2, ob_sb, ob_sb, if_neg n10, if_neg n10, e1, ob_sb, e2]
    have hQ := kq_70 law k S P (s := s) (by omega) (LwT sg t)
    by_cases g : ∃ m, m < cq (kq law k S P s (LwT sg t)) 256 ∧ x2 = nI m
    · obtain ⟨m, m1, rfl⟩ := g
      obtain ⟨z, z1, z2, z3⟩ := cq_ex m1
      subst z3
      obtain ⟨bg2, y1⟩ := keptM_yes h2 h6 (lw_hB l1 l2 l3) hlaw s2 z1 z2 (fun q7 => if nI (cq (kq law k S P s (LwT sg t)) z) = (-1 : Int32) then some (q7.1, q7.2) else some ((-6 : Int32), q7.2)) mbg
      have nm1 : ¬ nI (cq (kq law k S P s (LwT sg t)) z) = (-1 : Int32) := fun y => by
        have := not_le_m1 (v := cq (kq law k S P s (LwT sg t)) z) (by omega)
        rw [y] at this
        exact this (by decide)
      have ea : f_X0_at (nI (cq (kq law k S P s (LwT sg t)) z)) (nI (cq (kq law k S P s (LwT sg t)) 256)) q.2.2.2.2.2.2.2.2.2.2 = some (nI z) := by
        unfold f_X0_at
        rw [if_neg (nI_nneg (by omega)), if_neg (by rw [nI_leI (by omega) (by omega)]; omega), if_neg (by rw [show (70 : Int32) = nI 70 from rfl, nI_leI (by omega) (by omega)]; omega), if_pos (ob_inN (by omega) (by decide)), nI_clamp (by omega), e3 z z1 z2]
      refine ⟨_, by rw [if_neg nm1, ea, ob_sb], _, y1, by rfl, by exact e4⟩
    · have hy : ∀ x, x < 256 → kq law k S P s (LwT sg t) x = true → ¬ nI (cq (kq law k S P s (LwT sg t)) x) = x2 := fun x hx hq y => g ⟨_, cq_lt hx hq, y.symm⟩
      obtain ⟨bg2, y1⟩ := keptM_no h2 h6 (lw_hB l1 l2 l3) hlaw s2 hy (fun q7 => if x2 = (-1 : Int32) then some (q7.1, q7.2) else some ((-6 : Int32), q7.2)) mbg
      by_cases m1 : x2 = -1
      · refine ⟨_, by rw [if_pos m1], _, by rw [y1, if_pos m1], by rfl, by exact e4⟩
      · have ea : f_X0_at x2 (nI (cq (kq law k S P s (LwT sg t)) 256)) q.2.2.2.2.2.2.2.2.2.2 = some (-6) := by
          unfold f_X0_at
          by_cases z : x2 < 0
          · rw [if_pos z]
          · obtain ⟨m, hm, rfl⟩ := nI_of z
            rw [if_neg z, if_pos ?_]
            rw [nI_leI (by omega) hm]
            rcases Nat.lt_or_ge m (cq (kq law k S P s (LwT sg t)) 256) with y | y
            · exact absurd ⟨m, y, rfl⟩ g
            · exact y
        refine ⟨_, by rw [if_neg m1, ea, ob_sb], _, by rw [y1, if_neg m1], by rfl, by exact e4⟩
  · exact ⟨_, by rw [i1, ob_sb, if_pos rfl], _, by rw [i2, ob_sb, if_pos rfl], by rfl, by exact hg⟩
theorem op_least {hc : Int32} {hs hq : Nat → Int32} {mc : Int32} {ms mq : Nat → Int32} (h : RH hc hs hq mc ms mq) {lc : Int32} {ls lf ld : Nat → Int32} {hm : Int32} {hh : Nat → Int32} (hl : RLn lc ls lf ld hm hh) {sc se : Int32} (hS : RS sc se) (x1 lac : Int32) (lr : Nat → Int32) : ∃ q, f_X10_least x1 hc lac lc sc hq hs lr ld lf ls = some q ∧ ∃ r, f_X11_least x1 mc se hm hh mq ms = some r ∧ q.1 = r := by
  obtain ⟨k, S, P, h1, h2, hk, hP⟩ := id h
  obtain ⟨t, sg, l1, l2, l3⟩ := id hl
  obtain ⟨s, rfl, rfl, s1, s2⟩ := id hS
  have n10 : ¬ (1 : Int32) = 0 := by decide
  unfold f_X10_least f_X11_least
  rcases in_cases x1 0 1 with ⟨a1, a2⟩ | ⟨a1, a2⟩
  · obtain ⟨b, b1, b2, rfl⟩ := rngN (lo := 0) (hi := 1) (by decide) a1 (by decide)
    obtain ⟨r2, c1, c2⟩ := gather_eq (lw_hA l3) s1 s2 lac lr
    rw [if_neg (nI_nneg (by omega)), if_pos a1.2, c1, ob_sb]
    dsimp only
    rw [leastC_eq h1 (cq_70 (by omega) _) c2, ob_sb, a2, ob_sb, if_neg n10, leastM_eq h2 (lw_hB l1 l2 l3) s2, ob_sb]
    cases e : amq (qs s (LwT sg t)) (gtW (wrg k S P)) 256 with
    | none => exact ⟨_, by rw [encN_n, if_pos rfl], _, by rw [encN_n, if_pos (by decide)], by rfl⟩
    | some z =>
      have hz := (amq_in e).1
      rw [encN_s, if_neg (nI_ne6 (by omega)), if_neg (nI_nneg (by omega))]
      by_cases z0 : nI b = 0
      · exact ⟨_, by rw [if_pos z0], _, by rw [if_pos z0], by rfl⟩
      · exact ⟨_, by rw [if_neg z0, wronged_eq h1 hz, ob_sb], _, by rw [if_neg z0, mwronged_eq h2 hz, ob_sb], by rfl⟩
  · rw [a2, ob_sb, if_pos rfl]
    by_cases z : x1 < 0
    · exact ⟨_, by rw [if_pos z], _, rfl, by rfl⟩
    · exact ⟨_, by rw [if_neg z, if_neg (fun y => a1 ⟨fa_of_nlt z, y⟩)], _, rfl, by rfl⟩
theorem op_nearest {hc : Int32} {hs hq : Nat → Int32} {mc : Int32} {ms mq : Nat → Int32} (h : RH hc hs hq mc ms mq) {lc : Int32} {ls lf ld : Nat → Int32} {hm : Int32} {hh : Nat → Int32} (hl : RLn lc ls lf ld hm hh) {sc se : Int32} (hS : RS sc se) {an pp mh : Nat → Int32} (hg : RG an pp mh) (x1 x2 gc bz bg lac : Int32) (cm du gs lr : Nat → Int32) (mbg : Int32) : ∃ q, f_X10_nearest x1 x2 gc bz bg hc lac lc sc an cm du mh pp gs hq hs lr ld lf ls = some q ∧ ∃ r, f_X11_nearest x1 x2 mc se hm mbg hh mq ms = some r ∧ q.1 = r.1 ∧ RG q.2.2.2.2.2.1 q.2.2.2.2.2.2.2.2.2.1 q.2.2.2.2.2.2.2.2.1 := by
  obtain ⟨k, S, P, h1, h2, hk, hP⟩ := id h
  obtain ⟨t, sg, l1, l2, l3⟩ := id hl
  obtain ⟨s, rfl, rfl, s1, s2⟩ := id hS
  have n10 : ¬ (1 : Int32) = 0 := by decide
  have h6 := hp6_of hk hP
  unfold f_X10_nearest f_X11_nearest
  rcases isLaw_cases x1 with ⟨law, hlaw, rfl, i1, i2⟩ | ⟨i1, i2⟩
  · rw [i1, i2, ob_sb, ob_sb, if_neg n10, if_neg n10]
    rcases isCom_cases s1 s2 x2 with ⟨m, hm, -, rfl, j1, j2⟩ | ⟨j1, j2⟩
    · obtain ⟨q, e1, e2, e3, e4⟩ := gatherKept_eq h1 h6 (lw_hA l3) s1 s2 hg hlaw gc bz bg lac cm du gs lr
      obtain ⟨bg2, y1⟩ := nearM_eq h2 h6 (lw_hB l1 l2 l3) hlaw (y := m) s2 mbg
      rw [j1, j2, ob_sb, ob_sb, if_neg n10, if_neg n10, e1, ob_sb, e2, closest_eq (kq_70 law k S P (by omega) _) e3, ob_sb, y1, ob_sb]
      generalize encN (amq (kq law k S P s (LwT sg t)) (gtW (oth m)) 256) = V
      exact ⟨_, rfl, _, rfl, rfl, e4⟩
    · exact ⟨_, by rw [j1, ob_sb, if_pos rfl], _, by rw [j2, ob_sb, if_pos rfl], by rfl, by exact hg⟩
  · exact ⟨_, by rw [i1, ob_sb, if_pos rfl], _, by rw [i2, ob_sb, if_pos rfl], by rfl, by exact hg⟩
