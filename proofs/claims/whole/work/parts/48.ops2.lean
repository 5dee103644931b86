/-! worth, of, told: both sides answer alike -/
theorem addUp_eq {ea tg : Nat → Int32} {w : Nat → Nat} (hw : wts ea w) (t0 : tg 0 = nI 0) : ∃ t2, f_X9_addUp ea tg = some t2 ∧ tgs t2 w := by
  have h := up0 (k := 8) (fun n i => ∀ tg : Nat → Int32, (∀ j, j ≤ i → tg j = nI (pre4 w j)) → ∃ t2, lp_X9_addUp_2 ea n (nI i) tg = some t2 ∧ tgs t2 w) (by decide)
    (fun n tg a => ⟨tg, by rw [lp_X9_addUp_2, if_pos ((le8 (by omega)).mpr (Nat.le_refl _))], fun j hj => a j hj⟩)
    (fun n i hi ih tg a => by
      rw [lp_X9_addUp_2, if_neg (by rw [le8 (by omega)]; omega), if_pos (ob_inN (by omega) (by decide))]
      have ai := a i (Nat.le_refl i)
      by_cases q : 4 ≤ i
      · rw [if_pos (by rw [show (4 : Int32) = nI 4 from rfl, nI_leI (by omega) (by omega)]; exact q)]
        simp (disch := omega) only [ob_inN, nI_clamp, ob_sb, eq_self, if_true, if_false, nI_1, nI_add, pk_mul]
        refine ih _ (fun j hj => ?_)
        by_cases g : j = i + 1
        · subst g
          rw [pk_us, Int32.add_zero, ai]
          have e : pre4 w (i + 1) = pre4 w i := by
            unfold pre4
            rw [Nat.min_eq_right (by omega), Nat.min_eq_right q]
          rw [e]
        · rw [pk_un g]
          exact a j (by omega)
      · rw [if_neg (by rw [show (4 : Int32) = nI 4 from rfl, nI_leI (by omega) (by omega)]; exact q)]
        simp (disch := omega) only [ob_inN, nI_clamp, ob_sb, eq_self, if_true, if_false, nI_1, nI_add, pk_mul]
        refine ih _ (fun j hj => ?_)
        by_cases g : j = i + 1
        · subst g
          rw [pk_us, ai, hw i (by omega), nI_add]
          have e : pre4 w (i + 1) = pre4 w i + w i := by
            unfold pre4
            rw [Nat.min_eq_left (by omega), Nat.min_eq_left (by omega), sm_s]
          rw [e]
        · rw [pk_un g]
          exact a j (by omega))
  obtain ⟨t2, e1, e2⟩ := h tg (fun j hj => by
    obtain rfl : j = 0 := by omega
    exact t0)
  refine ⟨t2, ?_, e2⟩
  unfold f_X9_addUp
  rw [show lp_X9_addUp_2 ea FU (0 : Int32) tg = some t2 from e1, ob_sb]
/-- worths alike -/
def RW (ea tg mw : Nat → Int32) : Prop := ∃ w : Nat → Nat, wts ea w ∧ wts mw w ∧ tgs tg w ∧ w 0 ≤ 60 ∧ w 1 ≤ w 0 ∧ w 2 ≤ w 1 ∧ w 3 ≤ w 2
theorem w60 {w : Nat → Nat} (h : w 0 ≤ 60 ∧ w 1 ≤ w 0 ∧ w 2 ≤ w 1 ∧ w 3 ≤ w 2) : ∀ n, n < 4 → w n ≤ 60 := by
  intro n hn
  rcases (show n = 0 ∨ n = 1 ∨ n = 2 ∨ n = 3 by omega) with rfl | rfl | rfl | rfl <;> omega
theorem worth_go {ea tg mw : Nat → Int32} {w : Nat → Nat} (h1 : wts ea w) (h2 : wts mw w) (h3 : tgs tg w) (h4 : w 0 ≤ 60 ∧ w 1 ≤ w 0 ∧ w 2 ≤ w 1 ∧ w 3 ≤ w 2) {x1 x2 : Int32} {m lo hi : Nat} (hm : m < 4) (hlh : lo ≤ hi) (hhi : hi ≤ 60) (c1 : f_X10_worth x1 x2 ea tg = (f_X11_in x2 (nI lo) (nI hi)).bind (fun q3 => if q3 = 0 then some ((-2 : Int32), ea, tg) else ((f_X9_addUp (upd ea m x2) tg).bind (fun q4 => some (upd ea m x2, q4))).bind (fun q6 => some (ea m, q6.1, q6.2)))) (c2 : f_X11_worth x1 x2 mw = (f_X11_in x2 (nI lo) (nI hi)).bind (fun q5 => if q5 = 0 then some ((-2 : Int32), mw) else some (mw m, upd mw m x2))) (hs : ∀ v, lo ≤ v → v ≤ hi → (if (0 : Nat) = m then v else w 0) ≤ 60 ∧ (if 1 = m then v else w 1) ≤ (if (0 : Nat) = m then v else w 0) ∧ (if 2 = m then v else w 2) ≤ (if 1 = m then v else w 1) ∧ (if 3 = m then v else w 3) ≤ (if 2 = m then v else w 2)) : ∃ q, f_X10_worth x1 x2 ea tg = some q ∧ ∃ r, f_X11_worth x1 x2 mw = some r ∧ q.1 = r.1 ∧ RW q.2.1 q.2.2 r.2 := by
  rcases in_cases x2 (nI lo) (nI hi) with ⟨a1, a2⟩ | ⟨a1, a2⟩
  · obtain ⟨v, v1, v2, rfl⟩ := rngN (by omega) a1 hlh
    have u1 : wts (upd ea m (nI v)) (fun i => if i = m then v else w i) := fun i hi => by
      dsimp only
      by_cases g : i = m
      · subst g
        rw [pk_us, if_pos rfl]
      · rw [pk_un g, if_neg g]
        exact h1 i hi
    have u2 : wts (upd mw m (nI v)) (fun i => if i = m then v else w i) := fun i hi => by
      dsimp only
      by_cases g : i = m
      · subst g
        rw [pk_us, if_pos rfl]
      · rw [pk_un g, if_neg g]
        exact h2 i hi
    obtain ⟨t2, e1, e2⟩ := addUp_eq (tg := tg) u1 (h3 0 (by omega))
    refine ⟨(ea m, upd ea m (nI v), t2), ?_, (mw m, upd mw m (nI v)), ?_, ?_, (fun i => if i = m then v else w i), u1, u2, e2, hs v v1 v2⟩
    · rw [c1, a2, ob_sb, if_neg (by decide), e1]
      rfl
    · rw [c2, a2, ob_sb, if_neg (by decide)]
    · dsimp only
      rw [h1 m hm, h2 m hm]
  · exact ⟨_, by rw [c1, a2, ob_sb, if_pos rfl], _, by rw [c2, a2, ob_sb, if_pos rfl], rfl, w, h1, h2, h3, h4⟩
theorem worthC0 (x2 : Int32) (ea tg : Nat → Int32) : f_X10_worth (nI 0) x2 ea tg = (f_X11_in x2 (ea 1) (nI 60)).bind (fun q3 => if q3 = 0 then some ((-2 : Int32), ea, tg) else ((f_X9_addUp (upd ea 0 x2) tg).bind (fun q4 => some (upd ea 0 x2, q4))).bind (fun q6 => some (ea 0, q6.1, q6.2))) := rfl
theorem fits1 (x2 : Int32) (ea : Nat → Int32) : f_X9_fits (nI 1) x2 ea = f_X11_in x2 (ea 2) (ea 0) := by
  unfold f_X9_fits
  rw [if_neg (by decide), if_neg (by decide), if_pos (by decide), if_neg (by decide), if_neg (by decide), if_pos (by decide)]
  rfl
theorem worthC1 (x2 : Int32) (ea tg : Nat → Int32) : f_X10_worth (nI 1) x2 ea tg = (f_X11_in x2 (ea 2) (ea 0)).bind (fun q3 => if q3 = 0 then some ((-2 : Int32), ea, tg) else ((f_X9_addUp (upd ea 1 x2) tg).bind (fun q4 => some (upd ea 1 x2, q4))).bind (fun q6 => some (ea 1, q6.1, q6.2))) := by
  unfold f_X10_worth f_X9_put
  rw [fits1, if_neg (by decide), if_neg (by decide), if_pos (by decide), if_neg (by decide), if_neg (by decide), if_pos (by decide)]
  rfl
theorem fits2 (x2 : Int32) (ea : Nat → Int32) : f_X9_fits (nI 2) x2 ea = f_X11_in x2 (ea 3) (ea 1) := by
  unfold f_X9_fits
  rw [if_neg (by decide), if_neg (by decide), if_pos (by decide), if_neg (by decide), if_neg (by decide), if_pos (by decide)]
  rfl
theorem worthC2 (x2 : Int32) (ea tg : Nat → Int32) : f_X10_worth (nI 2) x2 ea tg = (f_X11_in x2 (ea 3) (ea 1)).bind (fun q3 => if q3 = 0 then some ((-2 : Int32), ea, tg) else ((f_X9_addUp (upd ea 2 x2) tg).bind (fun q4 => some (upd ea 2 x2, q4))).bind (fun q6 => some (ea 2, q6.1, q6.2))) := by
  unfold f_X10_worth f_X9_put
  rw [fits2, if_neg (by decide), if_neg (by decide), if_pos (by decide), if_neg (by decide), if_neg (by decide), if_pos (by decide)]
  rfl
theorem fits3 (x2 : Int32) (ea : Nat → Int32) : f_X9_fits (nI 3) x2 ea = f_X11_in x2 (nI 0) (ea 2) := by
  unfold f_X9_fits
  rw [if_neg (by decide), if_neg (by decide), if_pos (by decide), if_neg (by decide), if_pos (by decide)]
  rfl
theorem worthC3 (x2 : Int32) (ea tg : Nat → Int32) : f_X10_worth (nI 3) x2 ea tg = (f_X11_in x2 (nI 0) (ea 2)).bind (fun q3 => if q3 = 0 then some ((-2 : Int32), ea, tg) else ((f_X9_addUp (upd ea 3 x2) tg).bind (fun q4 => some (upd ea 3 x2, q4))).bind (fun q6 => some (ea 3, q6.1, q6.2))) := by
  unfold f_X10_worth f_X9_put
  rw [fits3, if_neg (by decide), if_neg (by decide), if_pos (by decide), if_neg (by decide), if_neg (by decide), if_pos (by decide)]
  rfl
theorem worthM0 (x2 : Int32) (mw : Nat → Int32) : f_X11_worth (nI 0) x2 mw = (f_X11_in x2 (mw 1) (nI 60)).bind (fun q5 => if q5 = 0 then some ((-2 : Int32), mw) else some (mw 0, upd mw 0 x2)) := rfl
theorem worthM1 (x2 : Int32) (mw : Nat → Int32) : f_X11_worth (nI 1) x2 mw = (f_X11_in x2 (mw 2) (mw 0)).bind (fun q5 => if q5 = 0 then some ((-2 : Int32), mw) else some (mw 1, upd mw 1 x2)) := rfl
theorem worthM2 (x2 : Int32) (mw : Nat → Int32) : f_X11_worth (nI 2) x2 mw = (f_X11_in x2 (mw 3) (mw 1)).bind (fun q5 => if q5 = 0 then some ((-2 : Int32), mw) else some (mw 2, upd mw 2 x2)) := rfl
theorem worthM3 (x2 : Int32) (mw : Nat → Int32) : f_X11_worth (nI 3) x2 mw = (f_X11_in x2 (nI 0) (mw 2)).bind (fun q5 => if q5 = 0 then some ((-2 : Int32), mw) else some (mw 3, upd mw 3 x2)) := rfl
theorem iLt (x : Int32) {n : Nat} (hn : n < 2 ^ 31) : x < nI n ↔ x.toInt < (n : Int) := by rw [fa_lt, nI_toInt hn]
theorem iGt (x : Int32) {n : Nat} (hn : n < 2 ^ 31) : nI n < x ↔ (n : Int) < x.toInt := by rw [fa_lt, nI_toInt hn]
theorem iLe (x : Int32) {n : Nat} (hn : n < 2 ^ 31) : x ≤ nI n ↔ x.toInt ≤ (n : Int) := by rw [fa_le, nI_toInt hn]
theorem iGe (x : Int32) {n : Nat} (hn : n < 2 ^ 31) : nI n ≤ x ↔ (n : Int) ≤ x.toInt := by rw [fa_le, nI_toInt hn]
theorem op_worth {ea tg mw : Nat → Int32} (h : RW ea tg mw) (x1 x2 : Int32) : ∃ q, f_X10_worth x1 x2 ea tg = some q ∧ ∃ r, f_X11_worth x1 x2 mw = some r ∧ q.1 = r.1 ∧ RW q.2.1 q.2.2 r.2 := by
  obtain ⟨w, h1, h2, h3, h4⟩ := id h
  rcases in_cases x1 0 3 with ⟨a1, a2⟩ | ⟨a1, a2⟩
  · obtain ⟨m, m1, m2, rfl⟩ := rngN (lo := 0) (hi := 3) (by decide) a1 (by decide)
    rcases (show m = 0 ∨ m = 1 ∨ m = 2 ∨ m = 3 by omega) with rfl | rfl | rfl | rfl
    · refine worth_go (m := 0) (lo := w 1) (hi := 60) h1 h2 h3 h4 (by decide) (by omega) (by omega) (by rw [worthC0, h1 1 (by decide)]) (by rw [worthM0, h2 1 (by decide)]) (fun v v1 v2 => ?_)
      simp only [if_true, if_false, reduceCtorEq, Nat.reduceEqDiff]
      omega
    · refine worth_go (m := 1) (lo := w 2) (hi := w 0) h1 h2 h3 h4 (by decide) (by omega) (by omega) (by rw [worthC1, h1 2 (by decide), h1 0 (by decide)]) (by rw [worthM1, h2 2 (by decide), h2 0 (by decide)]) (fun v v1 v2 => ?_)
      simp only [if_true, if_false, reduceCtorEq, Nat.reduceEqDiff]
      omega
    · refine worth_go (m := 2) (lo := w 3) (hi := w 1) h1 h2 h3 h4 (by decide) (by omega) (by omega) (by rw [worthC2, h1 3 (by decide), h1 1 (by decide)]) (by rw [worthM2, h2 3 (by decide), h2 1 (by decide)]) (fun v v1 v2 => ?_)
      simp only [if_true, if_false, reduceCtorEq, Nat.reduceEqDiff]
      omega
    · refine worth_go (m := 3) (lo := 0) (hi := w 2) h1 h2 h3 h4 (by decide) (by omega) (by omega) (by rw [worthC3, h1 2 (by decide)]) (by rw [worthM3, h2 2 (by decide)]) (fun v v1 v2 => ?_)
      simp only [if_true, if_false, reduceCtorEq, Nat.reduceEqDiff]
      omega
  · refine ⟨(-2, ea, tg), ?_, (-2, mw), by unfold f_X11_worth; rw [a2, ob_sb, if_pos rfl], rfl, h⟩
    unfold f_X10_worth
    by_cases q : x1 < 0
    · rw [if_pos q]
    · rw [if_neg q, if_pos ?_]
      have q' : ¬ x1.toInt < (0 : Nat) := fun z => q ((iLt x1 (n := 0) (by decide)).mpr z)
      have a1' : ¬ (((0 : Nat) : Int) ≤ x1.toInt ∧ x1.toInt ≤ (3 : Nat)) := fun z => a1 ⟨(iGe x1 (n := 0) (by decide)).mpr z.1, (iLe x1 (n := 3) (by decide)).mpr z.2⟩
      refine (iGe x1 (n := 4) (by decide)).mpr ?_
      omega
/-- is it a committee: both sides say the same -/
theorem isCom_cases {s : Nat} (h1 : 1 ≤ s) (hs : s ≤ 4) (x : Int32) : (∃ m, m < 256 ∧ pc8 m = s ∧ x = nI m ∧ f_X10_isCommittee x (nI s) = some 1 ∧ f_X11_isCommittee x (nI s) = some 1) ∨ (f_X10_isCommittee x (nI s) = some 0 ∧ f_X11_isCommittee x (nI s) = some 0) := by
  have n10 : ¬ (1 : Int32) = 0 := by decide
  rcases in_cases x 0 255 with ⟨a1, a2⟩ | ⟨a1, a2⟩
  · obtain ⟨m, m1, m2, rfl⟩ := rngN (lo := 0) (hi := 255) (by decide) a1 (by decide)
    have b2 := pc8_le m
    have e2 : f_X11_isCommittee (nI m) (nI s) = some (if pc8 m = s then 1 else 0) := isComm_eq (by omega) (by omega)
    have e1 : f_X10_isCommittee (nI m) (nI s) = some (if pc8 m = s then 1 else 0) := by
      unfold f_X10_isCommittee
      rw [isSet_in]
      rcases Nat.eq_zero_or_pos m with z | z
      · subst z
        rw [show f_X11_in (nI 0) (1 : Int32) (255 : Int32) = some 0 from rfl, ob_sb, if_pos rfl, if_neg (by rw [show pc8 0 = 0 from rfl]; omega)]
      · rw [in_1 (show (1 : Int32) ≤ nI m by rw [show (1 : Int32) = nI 1 from rfl, nI_leI (by omega) (by omega)]; omega) a1.2, ob_sb, if_neg n10, bitCount_8 m (by omega), ob_sb]
        by_cases g : pc8 m = s
        · rw [if_pos (by rw [g]), if_pos g]
        · rw [if_neg (by rw [nI_eq (by omega) (by omega)]; exact g), if_neg g]
    by_cases g : pc8 m = s
    · rw [if_pos g] at e1 e2
      exact Or.inl ⟨m, by omega, g, rfl, e1, e2⟩
    · rw [if_neg g] at e1 e2
      exact Or.inr ⟨e1, e2⟩
  · right
    refine ⟨?_, by unfold f_X11_isCommittee; rw [a2, ob_sb, if_pos rfl]⟩
    unfold f_X10_isCommittee
    rw [isSet_in]
    rcases in_cases x 1 255 with ⟨b1, -⟩ | ⟨-, b2⟩
    · exact absurd ⟨fa_of_nlt (fun z => by
        have z' := (iLt x (n := 0) (by decide)).mp z
        have b' := (iGe x (n := 1) (by decide)).mp b1.1
        omega), b1.2⟩ a1
    · rw [b2, ob_sb, if_pos rfl]
theorem encN_ge {o : Option Nat} (h : ∀ l, o = some l → l < 2 ^ 31) : ((0 : Int32) ≤ encN o) ↔ ¬ o = none := by
  cases o with
  | none => rw [encN_n]; exact ⟨fun z => absurd z (by decide), fun z => absurd rfl z⟩
  | some l => rw [encN_s]; exact ⟨fun _ => by simp, fun _ => nI_pos' (h l rfl)⟩
theorem op_of {hc : Int32} {hs hq : Nat → Int32} {mc : Int32} {ms mq : Nat → Int32} (h : RH hc hs hq mc ms mq) {ea tg mw : Nat → Int32} (hw : RW ea tg mw) {lc : Int32} {ls lf ld : Nat → Int32} {hm : Int32} {hh : Nat → Int32} (hl : RLn lc ls lf ld hm hh) {sc se : Int32} (hS : RS sc se) (x1 x2 : Int32) : ∃ q, f_X10_of x1 x2 hc lc sc hq hs ld lf ls tg = some q ∧ f_X11_of x1 x2 mc se hm hh mq ms mw = some q := by
  obtain ⟨k, S, P, h1, h2, hk, hP⟩ := id h
  obtain ⟨w, w1, w2, w3, w4⟩ := id hw
  obtain ⟨t, sg, l1, l2, l3⟩ := id hl
  obtain ⟨s, rfl, rfl, s1, s2⟩ := id hS
  have n10 : ¬ (1 : Int32) = 0 := by decide
  unfold f_X10_of f_X11_of
  rcases isCom_cases s1 s2 x1 with ⟨m, hm, -, rfl, i1, i2⟩ | ⟨i1, i2⟩
  · rw [i1, i2, ob_sb, ob_sb, if_neg n10, if_neg n10]
    have b1 := barOf_eq l1 l2 hm
    have lt : ∀ l, fbk (brkL (pLS sg t) (pLF sg t) (pLD sg t) m) (pN sg t) = some l → l < 2 ^ 31 := fun l hl => by
      have := fbk_lt hl
      have := l3.2.1
      omega
    by_cases e0 : x2 = 0
    · subst e0
      rw [show f_X11_in (0 : Int32) (0 : Int32) (3 : Int32) = some 1 from rfl, ob_sb, if_neg n10, if_pos rfl, if_pos rfl, allow_eq l3 hm, b1, ob_sb, ob_sb]
      by_cases z : fbk (brkL (pLS sg t) (pLF sg t) (pLD sg t) m) (pN sg t) = none
      · exact ⟨1, by rw [if_pos z, if_neg n10], by rw [if_neg (by rw [encN_ge lt]; exact fun y => y z)]⟩
      · exact ⟨0, by rw [if_neg z, if_pos rfl], by rw [if_pos ((encN_ge lt).mpr z)]⟩
    · by_cases e1 : x2 = 1
      · subst e1
        rw [show f_X11_in (1 : Int32) (0 : Int32) (3 : Int32) = some 1 from rfl, ob_sb, if_neg n10, if_neg n10, if_neg n10, if_pos rfl, if_pos rfl, worthOf_eq h1 w3 hm, mworthOf_eq h2 w2 hm]
        exact ⟨_, rfl, rfl⟩
      · by_cases e2 : x2 = 2
        · subst e2
          rw [show f_X11_in (2 : Int32) (0 : Int32) (3 : Int32) = some 1 from rfl, ob_sb, if_neg n10, if_neg e0, if_neg e0, if_neg e1, if_neg e1, if_pos rfl, if_pos rfl, wronged_eq h1 hm, mwronged_eq h2 hm]
          exact ⟨_, rfl, rfl⟩
        · by_cases e3 : x2 = 3
          · subst e3
            rw [show f_X11_in (3 : Int32) (0 : Int32) (3 : Int32) = some 1 from rfl, ob_sb, if_neg n10, if_neg e0, if_neg e0, if_neg e1, if_neg e1, if_neg e2, if_neg e2, if_pos rfl, firstBroken_eq l3 hm, b1]
            exact ⟨_, rfl, rfl⟩
          · have hi : f_X11_in x2 (0 : Int32) (3 : Int32) = some 0 := by
              rcases in_cases x2 0 3 with ⟨a1, -⟩ | ⟨-, a2⟩
              · obtain ⟨m, c1, c2, rfl⟩ := rngN (lo := 0) (hi := 3) (by decide) a1 (by decide)
                exfalso
                rcases (show m = 0 ∨ m = 1 ∨ m = 2 ∨ m = 3 by omega) with rfl | rfl | rfl | rfl
                · exact e0 rfl
                · exact e1 rfl
                · exact e2 rfl
                · exact e3 rfl
              · exact a2
            exact ⟨-2, by rw [if_neg e0, if_neg e1, if_neg e2, if_neg e3], by rw [hi, ob_sb, if_pos rfl]⟩
  · exact ⟨-2, by rw [i1, ob_sb, if_pos rfl], by rw [i2, ob_sb, if_pos rfl]⟩
/-- how many ';' stand before i -/
def c59 (sg : Nat → Nat) (i : Nat) : Nat := sm (fun j => if sg j = 59 then 1 else 0) i
theorem c59_s (sg : Nat → Nat) (i : Nat) : c59 sg (i + 1) = c59 sg i + if sg i = 59 then 1 else 0 := rfl
theorem pN_c59 {sg : Nat → Nat} {t : Nat} (hs : ∀ j, j < t → sg j < 128) : ∀ i, i ≤ t → ∀ c, rs sg i = some c → pN sg i = c59 sg i + if c = 10 then 1 else 0
  | 0, _, c, h => by
    have : c = 0 := by
      have := Option.some.inj h
      omega
    subst this
    rfl
  | i + 1, hi, c, h => by
    rw [rs_s] at h
    cases e : rs sg i with
    | none => rw [e] at h; cases h
    | some d =>
      rw [e, ob_sb] at h
      have ih := pN_c59 hs i (by omega) d e
      rw [c59_s]
      rcases stp_kind (rs_lt hs i (by omega) d e) h with ⟨k1, k2, k3⟩ | ⟨k1, k2, k3, k4⟩ | ⟨k1, k2, k3, k4, k5⟩ | ⟨k1, k2, k3, k4⟩
      · unfold pN at ih ⊢
        rw [prs_sc k2, ih, if_pos k2, if_pos k1, if_neg (by omega)]
      · unfold pN at ih ⊢
        rw [prs_dg ⟨k2, k3⟩]
        dsimp only
        unfold pN
        rw [ih, if_neg (by omega), if_neg (by omega), if_pos k4]
      · unfold pN at ih ⊢
        rw [prs_let ⟨k2, k3⟩]
        dsimp only
        unfold pN
        rw [ih, if_neg (by omega), if_neg (by omega), if_neg (by omega)]
      · unfold pN at ih ⊢
        rcases k3 with k | k
        · rw [prs_lt k]
          dsimp only
          unfold pN
          rw [ih, if_neg (by omega), if_neg (by omega), if_neg (by omega)]
        · rw [prs_gt k]
          dsimp only
          unfold pN
          rw [ih, if_neg (by omega), if_neg (by omega), if_neg (by omega)]
theorem told_lp {vl : Int32} {signs : Nat → Int32} {t : Nat} {sg : Nat → Nat} (h : txt vl signs t sg) (y1 : Int32) (b : Nat) : lp_X11_told_15 y1 vl signs FU (nI b) (nI 0) = some (nI (b + c59 sg t)) := by
  obtain ⟨rfl, ht, hh⟩ := h
  refine up0 (k := t) (fun n i => lp_X11_told_15 y1 (nI t) signs n (nI (b + c59 sg i)) (nI i) = some (nI (b + c59 sg t))) (by omega)
    (fun n => by rw [lp_X11_told_15, if_pos ((le40 ht ht).mpr (Nat.le_refl _))])
    (fun n i hi ih => by
      rw [lp_X11_told_15, if_neg (by rw [le40 ht (by omega)]; omega), if_pos (ob_inN (by omega) (by decide)), nI_clamp (by omega)]
      have hi' := hh i hi
      by_cases g : sg i = 59
      · rw [if_pos (by rw [hi'.1, g]; rfl)]
        rw [show (1 : Int32) = nI 1 from rfl, nI_add, nI_add]
        rw [c59_s, if_pos g] at ih
        exact ih
      · rw [if_neg (by rw [hi'.1, show (59 : Int32) = nI 59 from rfl, nI_eq (by omega) (by omega)]; exact g), Int32.add_zero]
        rw [show (1 : Int32) = nI 1 from rfl, nI_add]
        rw [c59_s, if_neg g] at ih
        exact ih)
theorem lines_eq {hm : Int32} {hh : Nat → Int32} {t : Nat} {sg : Nat → Nat} (l1 : txt hm hh t sg) (l2 : t = 0 ∨ rs sg t = some 10) (y1 : Int32) : (hm ≤ 0 → lp_X11_told_15 y1 hm hh FU (0 : Int32) (0 : Int32) = some (nI (pN sg t))) ∧ (¬ hm ≤ 0 → lp_X11_told_15 y1 hm hh FU (1 : Int32) (0 : Int32) = some (nI (pN sg t))) := by
  have hs : ∀ j, j < t → sg j < 128 := fun j hj => (l1.2.2 j hj).2
  have e := l1.1
  have ht := l1.2.1
  rcases l2 with z | z
  · subst z
    refine ⟨fun _ => told_lp l1 y1 0, fun g => absurd ?_ g⟩
    rw [e]
    decide
  · obtain ⟨p1, p2⟩ := pN_pos hs z
    have hc := pN_c59 hs t (Nat.le_refl t) 10 z
    rw [if_pos rfl] at hc
    refine ⟨fun g => absurd g ?_, fun _ => ?_⟩
    · rw [e]
      exact nI_nle (by omega) (by omega)
    · rw [hc, Nat.add_comm]
      exact told_lp l1 y1 1
theorem told_M {hm : Int32} {hh : Nat → Int32} {t : Nat} {sg : Nat → Nat} (l1 : txt hm hh t sg) (l2 : t = 0 ∨ rs sg t = some 10) (x1 mc se si : Int32) (mq ms mw : Nat → Int32) : f_X11_told x1 mc se si hm hh mq ms mw = (f_X11_in x1 (10 : Int32) (13 : Int32)).bind (fun q6 => if q6 = 0 then (f_X11_in x1 (20 : Int32) (25 : Int32)).bind (fun q8 => if q8 = 0 then (f_X11_in x1 (30 : Int32) (35 : Int32)).bind (fun q10 => if q10 = 0 then (if x1 = 0 then some mc else if x1 = (1 : Int32) then (f_X11_allPapers mc mq).bind (fun q17 => some q17) else if x1 = (2 : Int32) then some se else if x1 = (3 : Int32) then some si else if x1 = (4 : Int32) then some (nI (pN sg t)) else some (-2 : Int32)) else (f_X11_isHeap (x1 - (30 : Int32)) mc).bind (fun q18 => if q18 = 0 then some (-6 : Int32) else if ob_in (x1 - (30 : Int32)) 7 = true then some (ms (x1 - (30 : Int32)).toNatClampNeg) else none)) else (f_X11_isHeap (x1 - (20 : Int32)) mc).bind (fun q21 => if q21 = 0 then some (-6 : Int32) else if ob_in (x1 - (20 : Int32)) 7 = true then some (mq (x1 - (20 : Int32)).toNatClampNeg) else none)) else if ob_in (x1 - (10 : Int32)) 4 = true then some (mw (x1 - (10 : Int32)).toNatClampNeg) else none) := by
  have h := lines_eq l1 l2 x1
  unfold f_X11_told
  by_cases g : hm ≤ 0
  · rw [if_pos g, h.1 g, ob_sb]
  · rw [if_neg g, h.2 g, ob_sb]
theorem told_T {hc lc tl sc : Int32} {hq hs ea : Nat → Int32} {x1 : Int32} (h : x1.toInt < 10 ∨ (14 ≤ x1.toInt ∧ x1.toInt < 20) ∨ (26 ≤ x1.toInt ∧ x1.toInt < 30) ∨ 36 ≤ x1.toInt) : f_X10_told x1 hc lc tl sc hq hs ea = (if x1 = 0 then some hc else if x1 = (1 : Int32) then (f_X3_total hc hq).bind (fun q9 => some q9) else if x1 = (2 : Int32) then some sc else if x1 = (3 : Int32) then some tl else if x1 = (4 : Int32) then some lc else some (-2 : Int32)) := by
  have a10 : x1 < (10 : Int32) ↔ x1.toInt < ((10 : Nat) : Int) := iLt x1 (n := 10) (by decide)
  have a20 : x1 < (20 : Int32) ↔ x1.toInt < ((20 : Nat) : Int) := iLt x1 (n := 20) (by decide)
  have a30 : x1 < (30 : Int32) ↔ x1.toInt < ((30 : Nat) : Int) := iLt x1 (n := 30) (by decide)
  have a14 : (14 : Int32) ≤ x1 ↔ ((14 : Nat) : Int) ≤ x1.toInt := iGe x1 (n := 14) (by decide)
  have a26 : (26 : Int32) ≤ x1 ↔ ((26 : Nat) : Int) ≤ x1.toInt := iGe x1 (n := 26) (by decide)
  have a36 : (36 : Int32) ≤ x1 ↔ ((36 : Nat) : Int) ≤ x1.toInt := iGe x1 (n := 36) (by decide)
  unfold f_X10_told
  rcases h with h | h | h | h
  · rw [if_pos (a10.mpr (by omega)), if_pos (a20.mpr (by omega)), if_pos (a30.mpr (by omega))]
  · rw [if_neg (fun z => by have := a10.mp z; omega), if_pos (a14.mpr (by omega)), if_pos (a20.mpr (by omega)), if_pos (a30.mpr (by omega))]
  · rw [if_neg (fun z => by have := a10.mp z; omega), if_pos (a14.mpr (by omega)), if_neg (fun z => by have := a20.mp z; omega), if_pos (a26.mpr (by omega)), if_pos (a30.mpr (by omega))]
  · rw [if_neg (fun z => by have := a10.mp z; omega), if_pos (a14.mpr (by omega)), if_neg (fun z => by have := a20.mp z; omega), if_pos (a26.mpr (by omega)), if_neg (fun z => by have := a30.mp z; omega), if_pos (a36.mpr (by omega))]
theorem op_told {hc : Int32} {hs hq : Nat → Int32} {mc : Int32} {ms mq : Nat → Int32} (h : RH hc hs hq mc ms mq) {ea tg mw : Nat → Int32} (hw : RW ea tg mw) {lc : Int32} {ls lf ld : Nat → Int32} {hm : Int32} {hh : Nat → Int32} (hl : RLn lc ls lf ld hm hh) {sc se : Int32} (hS : RS sc se) {tl : Int32} {ts : Nat → Int32} {ml : Int32} {mts : Nat → Int32} (hT : RT tl ts ml mts) (x1 : Int32) : ∃ q, f_X10_told x1 hc lc tl sc hq hs ea = some q ∧ f_X11_told x1 mc se ml hm hh mq ms mw = some q := by
  obtain ⟨k, S, P, h1, h2, hk, hP⟩ := id h
  obtain ⟨w, w1, w2, w3, w4⟩ := id hw
  obtain ⟨t, sg, l1, l2, l3⟩ := id hl
  obtain ⟨s, rfl, rfl, s1, s2⟩ := id hS
  obtain ⟨t2, sg2, t3, t4⟩ := id hT
  have n10 : ¬ (1 : Int32) = 0 := by decide
  have a10 : x1 < (10 : Int32) ↔ x1.toInt < ((10 : Nat) : Int) := iLt x1 (n := 10) (by decide)
  have a20 : x1 < (20 : Int32) ↔ x1.toInt < ((20 : Nat) : Int) := iLt x1 (n := 20) (by decide)
  have a30 : x1 < (30 : Int32) ↔ x1.toInt < ((30 : Nat) : Int) := iLt x1 (n := 30) (by decide)
  have a14 : (14 : Int32) ≤ x1 ↔ ((14 : Nat) : Int) ≤ x1.toInt := iGe x1 (n := 14) (by decide)
  have a26 : (26 : Int32) ≤ x1 ↔ ((26 : Nat) : Int) ≤ x1.toInt := iGe x1 (n := 26) (by decide)
  have a36 : (36 : Int32) ≤ x1 ↔ ((36 : Nat) : Int) ≤ x1.toInt := iGe x1 (n := 36) (by decide)
  rw [told_M l1 l2]
  by_cases g1 : 10 ≤ x1.toInt ∧ x1.toInt ≤ 13
  · obtain ⟨m, m1, m2, rfl⟩ := rngN (x := x1) (lo := 10) (hi := 13) (by decide) ⟨(iGe x1 (n := 10) (by decide)).mpr g1.1, (iLe x1 (n := 13) (by decide)).mpr g1.2⟩ (by decide)
    have hsub : nI m - (10 : Int32) = nI (m - 10) := by rw [show (10 : Int32) = nI 10 from rfl, pk_sub (by omega)]
    have hin : ob_in (nI (m - 10)) 4 = true := ob_inN (by omega) (by decide)
    refine ⟨nI (w (m - 10)), ?_, ?_⟩
    · unfold f_X10_told
      rw [if_neg (fun z => by have := a10.mp z; omega), if_neg (fun z => by have := a14.mp z; omega), hsub, if_pos hin, nI_clamp (by omega), w1 _ (by omega)]
    · rw [show f_X11_in (nI m) (10 : Int32) (13 : Int32) = some 1 from in_1 ((iGe _ (n := 10) (by decide)).mpr g1.1) ((iLe _ (n := 13) (by decide)).mpr g1.2), ob_sb, if_neg n10, hsub, if_pos hin, nI_clamp (by omega), w2 _ (by omega)]
  · have b1 : f_X11_in x1 (10 : Int32) (13 : Int32) = some 0 := in_0 (by
      rcases (show x1.toInt < 10 ∨ 13 < x1.toInt by omega) with z | z
      · exact Or.inl ((iLt x1 (n := 10) (by decide)).mpr z)
      · exact Or.inr ((iGt x1 (n := 13) (by decide)).mpr z))
    rw [b1, ob_sb, if_pos rfl]
    by_cases g2 : 20 ≤ x1.toInt ∧ x1.toInt ≤ 25
    · rw [show f_X11_in x1 (20 : Int32) (25 : Int32) = some 1 from in_1 ((iGe _ (n := 20) (by decide)).mpr g2.1) ((iLe _ (n := 25) (by decide)).mpr g2.2), ob_sb, if_neg n10]
      have hT : f_X10_told x1 hc lc tl (nI s) hq hs ea = (f_X10_isHeap (x1 - (20 : Int32)) hc).bind (fun q38 => if q38 = 0 then some (-6 : Int32) else if ob_in (x1 - (20 : Int32)) 7 = true then some (hq (x1 - (20 : Int32)).toNatClampNeg) else none) := by
        unfold f_X10_told
        rw [if_neg (fun z => by have := a10.mp z; omega), if_pos (a14.mpr (by omega)), if_neg (fun z => by have := a20.mp z; omega), if_neg (fun z => by have := a26.mp z; omega)]
      rw [hT]
      obtain ⟨rfl, -, hh1, -⟩ := h1
      obtain ⟨rfl, -, hh2, -⟩ := h2
      rcases isHeap_cases hk (x1 - 20) with ⟨j, hj, e, i1, i2⟩ | ⟨i1, i2⟩
      · refine ⟨nI (P j), ?_, ?_⟩
        · rw [i1, ob_sb, if_neg n10, e, if_pos (ob_inN (by omega) (by decide)), nI_clamp (by omega), (hh1 j hj).2.2]
        · rw [i2, ob_sb, if_neg n10, e, if_pos (ob_inN (by omega) (by decide)), nI_clamp (by omega), (hh2 j hj).2.2]
      · exact ⟨-6, by rw [i1, ob_sb, if_pos rfl], by rw [i2, ob_sb, if_pos rfl]⟩
    · have b2 : f_X11_in x1 (20 : Int32) (25 : Int32) = some 0 := in_0 (by
        rcases (show x1.toInt < 20 ∨ 25 < x1.toInt by omega) with z | z
        · exact Or.inl ((iLt x1 (n := 20) (by decide)).mpr z)
        · exact Or.inr ((iGt x1 (n := 25) (by decide)).mpr z))
      rw [b2, ob_sb, if_pos rfl]
      by_cases g3 : 30 ≤ x1.toInt ∧ x1.toInt ≤ 35
      · rw [show f_X11_in x1 (30 : Int32) (35 : Int32) = some 1 from in_1 ((iGe _ (n := 30) (by decide)).mpr g3.1) ((iLe _ (n := 35) (by decide)).mpr g3.2), ob_sb, if_neg n10]
        have hT : f_X10_told x1 hc lc tl (nI s) hq hs ea = (f_X10_isHeap (x1 - (30 : Int32)) hc).bind (fun q38 => if q38 = 0 then some (-6 : Int32) else if ob_in (x1 - (30 : Int32)) 7 = true then some (hs (x1 - (30 : Int32)).toNatClampNeg) else none) := by
          unfold f_X10_told
          rw [if_neg (fun z => by have := a10.mp z; omega), if_pos (a14.mpr (by omega)), if_neg (fun z => by have := a20.mp z; omega), if_pos (a26.mpr (by omega)), if_neg (fun z => by have := a30.mp z; omega), if_neg (fun z => by have := a36.mp z; omega)]
        rw [hT]
        obtain ⟨rfl, -, hh1, -⟩ := h1
        obtain ⟨rfl, -, hh2, -⟩ := h2
        rcases isHeap_cases hk (x1 - 30) with ⟨j, hj, e, i1, i2⟩ | ⟨i1, i2⟩
        · refine ⟨nI (S j), ?_, ?_⟩
          · rw [i1, ob_sb, if_neg n10, e, if_pos (ob_inN (by omega) (by decide)), nI_clamp (by omega), (hh1 j hj).1]
          · rw [i2, ob_sb, if_neg n10, e, if_pos (ob_inN (by omega) (by decide)), nI_clamp (by omega), (hh2 j hj).1]
        · exact ⟨-6, by rw [i1, ob_sb, if_pos rfl], by rw [i2, ob_sb, if_pos rfl]⟩
      · have b3 : f_X11_in x1 (30 : Int32) (35 : Int32) = some 0 := in_0 (by
          rcases (show x1.toInt < 30 ∨ 35 < x1.toInt by omega) with z | z
          · exact Or.inl ((iLt x1 (n := 30) (by decide)).mpr z)
          · exact Or.inr ((iGt x1 (n := 35) (by decide)).mpr z))
        rw [b3, ob_sb, if_pos rfl, told_T (by omega), total_eq h1, allPapers_eq h2, h1.1, h2.1, t3.1, t4.1, l3.1]
        by_cases c0 : x1 = 0
        · exact ⟨nI k, by rw [if_pos c0], by rw [if_pos c0]⟩
        by_cases c1 : x1 = 1
        · exact ⟨nI (sm P k), by rw [if_neg c0, if_pos c1, ob_sb], by rw [if_neg c0, if_pos c1, ob_sb]⟩
        by_cases c2 : x1 = 2
        · exact ⟨nI s, by rw [if_neg c0, if_neg c1, if_pos c2], by rw [if_neg c0, if_neg c1, if_pos c2]⟩
        by_cases c3 : x1 = 3
        · exact ⟨nI t2, by rw [if_neg c0, if_neg c1, if_neg c2, if_pos c3], by rw [if_neg c0, if_neg c1, if_neg c2, if_pos c3]⟩
        by_cases c4 : x1 = 4
        · exact ⟨nI (pN sg t), by rw [if_neg c0, if_neg c1, if_neg c2, if_neg c3, if_pos c4], by rw [if_neg c0, if_neg c1, if_neg c2, if_neg c3, if_pos c4]⟩
        exact ⟨-2, by rw [if_neg c0, if_neg c1, if_neg c2, if_neg c3, if_neg c4], by rw [if_neg c0, if_neg c1, if_neg c2, if_neg c3, if_neg c4]⟩
