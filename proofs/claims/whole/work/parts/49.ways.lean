/-! the six ways, both sides; choose -/
/-- what a way chooses -/
def wy (y s k : Nat) (S P w : Nat → Nat) (Lw : Nat → Bool) : Nat :=
  if y = 0 then xs (pkM k S P) 0 s else if y = 1 then xs (pkG k S P w) 0 s else if y = 2 then (lst k S P s).1 else if y = 3 then (sst k S P s s).1 else if y = 4 then (amq (qs s Lw) (ltW (wor k S P w)) 256).getD 0 else itr (bs (wor k S P w)) (xs (pkG k S P w) 0 s) 70
/-- in which order, for the first four ways -/
def wj (y s k : Nat) (S P w : Nat → Nat) (j : Nat) : Nat :=
  if y = 0 then pkM k S P (xs (pkM k S P) 0 j) else if y = 1 then pkG k S P w (xs (pkG k S P w) 0 j) else if y = 2 then pkL k S P j else pkS k S P s j
theorem six {y : Nat} (h : y < 6) : y = 0 ∨ y = 1 ∨ y = 2 ∨ y = 3 ∨ y = 4 ∨ y = 5 := by omega
theorem wy_ok {cnt : Int32} {sets papers : Nat → Int32} {k : Nat} {S P : Nat → Nat} (h : hp cnt sets papers k S P) {s : Nat} (hs : s ≤ 4) (w : Nat → Nat) (Lw : Nat → Bool) {y : Nat} (hy : y < 6) : wy y s k S P w Lw < 256 ∧ pc8 (wy y s k S P w Lw) ≤ 4 := by
  have hG := xs_ok (pkG_ok k S P w) (x0 := 0) (by decide) s (by rw [show pc8 0 = 0 from rfl]; omega)
  rw [show pc8 0 = 0 from rfl, Nat.zero_add] at hG
  unfold wy
  rcases six hy with rfl | rfl | rfl | rfl | rfl | rfl
  · rw [if_pos rfl]
    have := xs_ok (pkM_ok k S P) (x0 := 0) (by decide) s (by rw [show pc8 0 = 0 from rfl]; omega)
    rw [show pc8 0 = 0 from rfl, Nat.zero_add] at this
    exact ⟨this.1, by omega⟩
  · rw [if_neg (by decide), if_pos rfl]
    exact ⟨hG.1, by omega⟩
  · rw [if_neg (by decide), if_neg (by decide), if_pos rfl]
    have := lst_ok (S := S) h.2.2.2 s (by omega)
    exact ⟨this.1, by omega⟩
  · rw [if_neg (by decide), if_neg (by decide), if_neg (by decide), if_pos rfl]
    have := sst_ok h hs s (by omega)
    exact ⟨this.1, by omega⟩
  · rw [if_neg (by decide), if_neg (by decide), if_neg (by decide), if_neg (by decide), if_pos rfl]
    cases e : amq (qs s Lw) (ltW (wor k S P w)) 256 with
    | none => exact ⟨by decide, by decide⟩
    | some b =>
      have := amq_in e
      have h2 := (qs_t.mp this.2).1
      exact ⟨this.1, by rw [Option.getD_some]; omega⟩
  · rw [if_neg (by decide), if_neg (by decide), if_neg (by decide), if_neg (by decide), if_neg (by decide)]
    have := itr_ok (v := wor k S P w) hG.1 70
    exact ⟨this.1, by omega⟩
/-- how a choice lies in the class -/
def chs (y s x : Nat) (f : Nat → Nat) (cn : Int32) (o : Nat → Int32) : Prop := (y ≤ 3 → cn = nI s ∧ ∀ j, j < s → o j = nI (f j)) ∧ (4 ≤ y → cn = nI (pc8 x) ∧ ∀ c, c < 8 → bt x c = 1 → o (rk x c) = nI c)
theorem enc0_eq (o : Option Nat) : enc0 o = nI (o.getD 0) := by cases o <;> rfl
theorem run_eq {cnt : Int32} {sets papers : Nat → Int32} {k : Nat} {S P : Nat → Nat} (h : hp cnt sets papers k S P) {tg : Nat → Int32} {w : Nat → Nat} (ht : tgs tg w) (hw : ∀ n, n < 4 → w n ≤ 60) {Lw : Nat → Bool} {s : Nat} (hs4 : s ≤ 4) {y : Nat} (hy : y < 6) {lc : Int32} {row : Nat → Int32} (hL : y = 4 → lc = nI (cq (qs s Lw) 256) ∧ rowIs row (qs s Lw) 256) (ll pl pr : Int64) (pp c0 x0 p0 : Int32) (lu : Nat → Int64) (o : Nat → Int32) (pu : Nat → Int64) : ∃ q, f_X8_run (nI y) (nI s) cnt lc ll pl pr pp c0 x0 p0 papers sets tg row lu o pu = some q ∧ q.2.2.2.2.2.1 = nI (wy y s k S P w Lw) ∧ chs y s (wy y s k S P w Lw) (wj y s k S P w) q.2.2.2.2.1 q.2.2.2.2.2.2.2.2.1 := by
  have hok := wy_ok h hs4 w Lw hy
  unfold f_X8_run f_X8_clear
  rw [ob_sb]
  dsimp only
  rcases six hy with rfl | rfl | rfl | rfl | rfl | rfl
  · obtain ⟨o2, e1, -, e3⟩ := byHeads_eq h (i := 0) (x := 0) hs4 (Nat.zero_le s) (by decide) rfl o
    have e1' : f_X8_byHeads (nI s) cnt (0 : Int32) (0 : Int32) papers sets o = some (nI s, nI (xs (pkM k S P) 0 s), o2) := e1
    refine ⟨(ll, pl, pr, pp, nI s, nI (xs (pkM k S P) 0 s), p0, lu, o2, pu), by rw [if_pos (by decide), e1', ob_sb], rfl, fun _ => ⟨rfl, fun j hj => ?_⟩, fun g => absurd g (by decide)⟩
    have := e3 j (by omega)
    rw [Nat.zero_add] at this
    exact this
  · obtain ⟨o2, e1, e3⟩ := byWorth_eq h ht hw hs4 o
    exact ⟨(ll, pl, pr, pp, nI s, nI (xs (pkG k S P w) 0 s), p0, lu, o2, pu), by rw [if_neg (by decide), if_pos (by decide), e1, ob_sb], rfl, fun _ => ⟨rfl, e3⟩, fun g => absurd g (by decide)⟩
  · obtain ⟨up2, o2, e1, -, e3⟩ := byLoads_eq h hs4 ll 0 0 lu o
    exact ⟨(lN (lst k S P s).2.1, pl, pr, pp, nI s, nI (lst k S P s).1, p0, up2, o2, pu), by rw [if_neg (by decide), if_neg (by decide), if_pos (by decide), e1, ob_sb], rfl, fun _ => ⟨rfl, e3⟩, fun g => absurd g (by decide)⟩
  · obtain ⟨r1, p1, o2, up2, e1, -, e3⟩ := byPurses_eq h hs4 hs4 pl pr pp 0 0 p0 o pu
    exact ⟨(ll, lN (sst k S P s s).2.1, r1, p1, nI s, nI (sst k S P s s).1, nI (sst k S P s s).2.2.2, lu, o2, up2), by rw [if_neg (by decide), if_neg (by decide), if_neg (by decide), if_pos (by decide), e1, ob_sb], rfl, fun _ => ⟨rfl, e3⟩, fun g => absurd g (by decide)⟩
  · obtain ⟨rfl, hr⟩ := hL rfl
    have e1 := mostW_eq h ht hw (cq_70 (by omega) Lw) hr
    rw [enc0_eq] at e1
    obtain ⟨o2, e2, e3⟩ := take_eq hok.1 hok.2 0 0 o
    exact ⟨(ll, pl, pr, pp, nI (pc8 (wy 4 s k S P w Lw)), nI (wy 4 s k S P w Lw), p0, lu, o2, pu), by rw [if_neg (by decide), if_neg (by decide), if_neg (by decide), if_neg (by decide), if_pos (by decide), e1, ob_sb, show nI ((amq (qs s Lw) (ltW (wor k S P w)) 256).getD 0) = nI (wy 4 s k S P w Lw) from rfl, e2, ob_sb], rfl, fun g => absurd g (by decide), fun _ => ⟨rfl, e3⟩⟩
  · obtain ⟨o2, e1, e3⟩ := byWorth_eq h ht hw hs4 o
    have hG := xs_ok (pkG_ok k S P w) (x0 := 0) (by decide) s (by rw [show pc8 0 = 0 from rfl]; omega)
    have e4 := bySwaps14_eq h ht hw hG.1
    obtain ⟨o4, e5, e6⟩ := take_eq hok.1 hok.2 (nI s) (nI (xs (pkG k S P w) 0 s)) o2
    have e7 : f_X8_bySwaps (nI s) cnt (0 : Int32) (0 : Int32) papers sets tg o = some (nI (pc8 (wy 5 s k S P w Lw)), nI (wy 5 s k S P w Lw), o4) := by
      unfold f_X8_bySwaps
      rw [e1, ob_sb]
      dsimp only
      rw [e4, ob_sb, show nI (itr (bs (wor k S P w)) (xs (pkG k S P w) 0 s) 70) = nI (wy 5 s k S P w Lw) from rfl, e5, ob_sb]
    exact ⟨(ll, pl, pr, pp, nI (pc8 (wy 5 s k S P w Lw)), nI (wy 5 s k S P w Lw), p0, lu, o4, pu), by rw [if_neg (by decide), if_neg (by decide), if_neg (by decide), if_neg (by decide), if_neg (by decide), e7, ob_sb], rfl, fun g => absurd g (by decide), fun _ => ⟨rfl, e6⟩⟩
/-- the committee is not barred -/
def LwT (sg : Nat → Nat) (t x : Nat) : Bool := decide (fbk (brkL (pLS sg t) (pLF sg t) (pLD sg t) x) (pN sg t) = none)
theorem lw_hA {lc : Int32} {ls lf ld : Nat → Int32} {t : Nat} {sg : Nat → Nat} (l3 : lns lc ls lf ld (pN sg t) (pLS sg t) (pLF sg t) (pLD sg t)) : ∀ x, x < 256 → f_X4_allow (nI x) lc ld lf ls = some (if LwT sg t x = true then 1 else 0) := fun x hx => by
  rw [allow_eq l3 hx]
  unfold LwT
  by_cases z : fbk (brkL (pLS sg t) (pLF sg t) (pLD sg t) x) (pN sg t) = none
  · rw [if_pos z, if_pos (decide_eq_true z)]
  · rw [if_neg z, if_neg (fun g => z (of_decide_eq_true g))]
theorem lw_hB {lc : Int32} {ls lf ld : Nat → Int32} {t : Nat} {sg : Nat → Nat} {hm : Int32} {hh : Nat → Int32} (l1 : txt hm hh t sg) (l2 : t = 0 ∨ rs sg t = some 10) (l3 : lns lc ls lf ld (pN sg t) (pLS sg t) (pLF sg t) (pLD sg t)) : ∀ x, x < 256 → ∃ r, f_X11_barOf (nI x) hm hh = some r ∧ (LwT sg t x = true → r < 0 ∧ ¬ 0 ≤ r) ∧ (¬ LwT sg t x = true → 0 ≤ r ∧ ¬ r < 0) := fun x hx => by
  refine ⟨_, barOf_eq l1 l2 hx, fun g => ?_, fun g => ?_⟩
  · have z : fbk (brkL (pLS sg t) (pLF sg t) (pLD sg t) x) (pN sg t) = none := of_decide_eq_true g
    rw [z, encN_n]
    decide
  · cases e : fbk (brkL (pLS sg t) (pLF sg t) (pLD sg t) x) (pN sg t) with
    | none => exact absurd (decide_eq_true e) g
    | some l =>
      have := fbk_lt e
      have := l3.2.1
      rw [encN_s]
      exact ⟨nI_pos' (by omega), nI_nneg (by omega)⟩
theorem runWay_eq {cnt : Int32} {sets papers : Nat → Int32} {k : Nat} {S P : Nat → Nat} (h : hp cnt sets papers k S P) {tg : Nat → Int32} {w : Nat → Nat} (ht : tgs tg w) (hw : ∀ n, n < 4 → w n ≤ 60) {lc : Int32} {ls lf ld : Nat → Int32} {Lw : Nat → Bool} (hA : ∀ x, x < 256 → f_X4_allow (nI x) lc ld lf ls = some (if Lw x = true then 1 else 0)) {s : Nat} (hs1 : 1 ≤ s) (hs4 : s ≤ 4) {y : Nat} (hy : y < 6) (lac wc wch wpc : Int32) (wll wpl wpr : Int64) (wpp : Int32) (lr : Nat → Int32) (wlu : Nat → Int64) (wor' : Nat → Int32) (wpu : Nat → Int64) : ∃ q, f_X10_runWay (nI y) (nI s) cnt lac lc wc wch wpc wll wpl wpr wpp papers sets lr ld lf ls wlu wor' wpu tg = some q ∧ q.2.2.1 = nI (wy y s k S P w Lw) ∧ chs y s (wy y s k S P w Lw) (wj y s k S P w) q.2.1 q.2.2.2.2.2.2.2.2.2.2.1 := by
  unfold f_X10_runWay
  by_cases g : y = 4
  · subst g
    obtain ⟨r2, g1, g2⟩ := gather_eq hA hs1 hs4 lac lr
    obtain ⟨q, e1, e2, e3⟩ := run_eq h ht hw (Lw := Lw) hs4 (y := 4) (by decide) (lc := nI (cq (qs s Lw) 256)) (row := r2) (fun _ => ⟨rfl, g2⟩) wll wpl wpr wpp wc wch wpc wlu wor' wpu
    exact ⟨(nI (cq (qs s Lw) 256), q.2.2.2.2.1, q.2.2.2.2.2.1, q.2.2.2.2.2.2.1, q.1, q.2.1, q.2.2.1, q.2.2.2.1, r2, q.2.2.2.2.2.2.2.1, q.2.2.2.2.2.2.2.2.1, q.2.2.2.2.2.2.2.2.2), by rw [if_pos (by decide), g1, ob_sb]; dsimp only; rw [e1, ob_sb], e2, e3⟩
  · obtain ⟨q, e1, e2, e3⟩ := run_eq h ht hw (Lw := Lw) hs4 hy (lc := lac) (row := lr) (fun z => absurd z g) wll wpl wpr wpp wc wch wpc wlu wor' wpu
    exact ⟨(lac, q.2.2.2.2.1, q.2.2.2.2.2.1, q.2.2.2.2.2.2.1, q.1, q.2.1, q.2.2.1, q.2.2.2.1, lr, q.2.2.2.2.2.2.2.1, q.2.2.2.2.2.2.2.2.1, q.2.2.2.2.2.2.2.2.2), by rw [if_neg (by rw [show (4 : Int32) = nI 4 from rfl, nI_eq (by omega) (by decide)]; exact g), e1, ob_sb], e2, e3⟩
/-- the way of the reference -/
theorem layWay_eq {cnt : Int32} {sets papers : Nat → Int32} {k : Nat} {S P : Nat → Nat} (h : hp cnt sets papers k S P) {wo : Nat → Int32} {w : Nat → Nat} (ht : wts wo w) (hw : ∀ n, n < 4 → w n ≤ 60) {hm : Int32} {hh : Nat → Int32} {Lw : Nat → Bool} (hB : ∀ x, x < 256 → ∃ r, f_X11_barOf (nI x) hm hh = some r ∧ (Lw x = true → r < 0 ∧ ¬ 0 ≤ r) ∧ (¬ Lw x = true → 0 ≤ r ∧ ¬ r < 0)) {s : Nat} (hs4 : s ≤ 4) {y : Nat} (hy : y < 6) (cs pa : Int32) (ru rb : Int64) (ch : Nat → Int32) (low up : Nat → Int64) : ∃ q, f_X11_layWay (nI y) cnt (nI s) hm cs pa ru rb ch hh low papers sets up wo = some q ∧ q.1 = nI (wy y s k S P w Lw) ∧ (y ≤ 3 → ∀ j, j < s → q.2.2.2.2.1 j = nI (wj y s k S P w j)) ∧ (y = 2 → ∀ r, r ≤ s → q.2.2.2.2.2.1 r = lN (lst k S P r).2.1 ∧ upr q.2.2.2.2.2.2 (7 * r) (lst k S P r).2.2) ∧ (y = 3 → q.2.1 = nI (sst k S P s s).2.2.2 ∧ ∀ r, r ≤ s → q.2.2.2.2.2.1 r = lN (sst k S P s r).2.1 ∧ upr q.2.2.2.2.2.2 (7 * r) (sst k S P s r).2.2.1) := by
  obtain ⟨up1, a1, a2⟩ := lay19_eq hs4 (nI y) up
  have hl : (vp_updL low (0 : Int32).toNatClampNeg (1 : Int64)) 0 = lN 1 := pk_uLs
  unfold f_X11_layWay
  rw [a1, ob_sb]
  rcases six hy with rfl | rfl | rfl | rfl | rfl | rfl
  · obtain ⟨c2, e1, -, e3⟩ := picks_model h ht hw hs4 (y1 := nI 0) (pkM_ok k S P) (by decide) (Or.inl ⟨rfl, rfl⟩) 0 ru rb (vp_updL low (0 : Int32).toNatClampNeg (1 : Int64)) up1 s FU 0 0 ch (by omega) (by unfold FU; omega) (by decide) rfl
    have e1' : lp_X11_layWay_53 (nI 0) cnt (nI s) papers sets wo FU (0 : Int32) (0 : Int32) (0 : Int32) ru rb ch (vp_updL low (0 : Int32).toNatClampNeg (1 : Int64)) up1 = _ := e1
    rw [e1', ob_sb]
    refine ⟨_, by rw [if_neg (by decide), if_neg (by decide)], rfl, fun _ j hj => ?_, fun g => absurd g (by decide), fun g => absurd g (by decide)⟩
    have := e3 j hj
    rw [Nat.zero_add] at this
    exact this
  · obtain ⟨c2, e1, -, e3⟩ := picks_model h ht hw hs4 (y1 := nI 1) (pkG_ok k S P w) (by decide) (Or.inr (Or.inl ⟨rfl, rfl⟩)) 0 ru rb (vp_updL low (0 : Int32).toNatClampNeg (1 : Int64)) up1 s FU 0 0 ch (by omega) (by unfold FU; omega) (by decide) rfl
    have e1' : lp_X11_layWay_53 (nI 1) cnt (nI s) papers sets wo FU (0 : Int32) (0 : Int32) (0 : Int32) ru rb ch (vp_updL low (0 : Int32).toNatClampNeg (1 : Int64)) up1 = _ := e1
    rw [e1', ob_sb]
    refine ⟨_, by rw [if_neg (by decide), if_neg (by decide)], rfl, fun _ j hj => ?_, fun g => absurd g (by decide), fun g => absurd g (by decide)⟩
    have := e3 j hj
    rw [Nat.zero_add] at this
    exact this
  · rw [if_neg (by decide)] at a2
    obtain ⟨ch2, low2, up2, e1, e2, e3⟩ := loadM_eq h hs4 wo 0 ru rb ch (vp_updL low (0 : Int32).toNatClampNeg (1 : Int64)) up1 hl a2
    have e1' : lp_X11_layWay_53 (nI 2) cnt (nI s) papers sets wo FU (0 : Int32) (0 : Int32) (0 : Int32) ru rb ch (vp_updL low (0 : Int32).toNatClampNeg (1 : Int64)) up1 = _ := e1
    rw [e1', ob_sb]
    exact ⟨_, by rw [if_neg (by decide), if_neg (by decide)], rfl, fun _ => e2, fun _ => e3, fun g => absurd g (by decide)⟩
  · rw [if_pos (by decide)] at a2
    obtain ⟨ru2, rb2, ch2, low2, up2, e1, e2, e3⟩ := shareM_eq h hs4 wo ru rb ch (vp_updL low (0 : Int32).toNatClampNeg (1 : Int64)) up1 hl a2
    have e1' : lp_X11_layWay_53 (nI 3) cnt (nI s) papers sets wo FU (0 : Int32) (0 : Int32) (0 : Int32) ru rb ch (vp_updL low (0 : Int32).toNatClampNeg (1 : Int64)) up1 = _ := e1
    rw [e1', ob_sb]
    exact ⟨_, by rw [if_neg (by decide), if_neg (by decide)], rfl, fun _ => e2, fun g => absurd g (by decide), fun _ => ⟨rfl, e3⟩⟩
  · have e1 : lp_X11_layWay_53 (nI 4) cnt (nI s) papers sets wo FU (0 : Int32) (0 : Int32) (0 : Int32) ru rb ch (vp_updL low (0 : Int32).toNatClampNeg (1 : Int64)) up1 = some ((0 : Int32), (0 : Int32), ru, rb, ch, vp_updL low (0 : Int32).toNatClampNeg (1 : Int64), up1) := by
      rw [show FU = 299 + 1 from rfl, lp_X11_layWay_53]
      by_cases g : nI s ≤ (0 : Int32)
      · rw [if_pos g]
      · rw [if_neg g, if_pos (by decide)]
    have e2 := bestOf_eq h ht hw hB hs4
    rw [enc0_eq] at e2
    rw [e1, ob_sb]
    have e3 : wy 4 s k S P w Lw = (amq (qs s Lw) (ltW (wor k S P w)) 256).getD 0 := by
      unfold wy
      rw [if_neg (by decide), if_neg (by decide), if_neg (by decide), if_neg (by decide), if_pos rfl]
    rw [e3]
    exact ⟨_, by rw [if_pos (by decide), e2, ob_sb, if_neg (by decide)], by dsimp only, fun g => absurd g (by decide), fun g => absurd g (by decide), fun g => absurd g (by decide)⟩
  · obtain ⟨c2, e1, -, e3⟩ := picks_model h ht hw hs4 (y1 := nI 5) (pkG_ok k S P w) (by decide) (Or.inr (Or.inr ⟨rfl, rfl⟩)) 0 ru rb (vp_updL low (0 : Int32).toNatClampNeg (1 : Int64)) up1 s FU 0 0 ch (by omega) (by unfold FU; omega) (by decide) rfl
    have e1' : lp_X11_layWay_53 (nI 5) cnt (nI s) papers sets wo FU (0 : Int32) (0 : Int32) (0 : Int32) ru rb ch (vp_updL low (0 : Int32).toNatClampNeg (1 : Int64)) up1 = _ := e1
    have hG := xs_ok (pkG_ok k S P w) (x0 := 0) (by decide) s (by rw [show pc8 0 = 0 from rfl]; omega)
    have e4 := mend_eq h ht hw hG.1
    rw [e1', ob_sb]
    dsimp only
    exact ⟨_, by rw [if_neg (by decide), if_pos (by decide), e4, ob_sb], rfl, fun g => absurd g (by decide), fun g => absurd g (by decide), fun g => absurd g (by decide)⟩
theorem isWay_cases (x : Int32) : (∃ y, y < 6 ∧ x = nI y ∧ f_X10_isWay x = some 1 ∧ f_X11_isWay x = some 1) ∨ (f_X10_isWay x = some 0 ∧ f_X11_isWay x = some 0) := by
  rcases in_cases x 0 5 with ⟨a1, a2⟩ | ⟨a1, a2⟩
  · obtain ⟨m, m1, m2, rfl⟩ := rngN (lo := 0) (hi := 5) (by decide) a1 (by decide)
    exact Or.inl ⟨m, by omega, rfl, by rw [isWay_in, a2], bind_id a2⟩
  · exact Or.inr ⟨by rw [isWay_in, a2], bind_id a2⟩
theorem op_choose {hc : Int32} {hs hq : Nat → Int32} {mc : Int32} {ms mq : Nat → Int32} (h : RH hc hs hq mc ms mq) {ea tg mw : Nat → Int32} (hw : RW ea tg mw) {lc : Int32} {ls lf ld : Nat → Int32} {hm : Int32} {hh : Nat → Int32} (hl : RLn lc ls lf ld hm hh) {sc se : Int32} (hS : RS sc se) (x1 x2 : Int32) (lac wc wch wpc : Int32) (wll wpl wpr : Int64) (wpp : Int32) (lr : Nat → Int32) (wlu : Nat → Int64) (wor' : Nat → Int32) (wpu : Nat → Int64) (cs pa : Int32) (ru rb : Int64) (ch : Nat → Int32) (low up : Nat → Int64) : ∃ q, f_X10_choose x1 x2 hc lac lc sc wc wch wpc wll wpl wpr wpp hq hs lr ld lf ls wlu wor' wpu tg = some q ∧ ∃ r, f_X11_choose x1 x2 mc se hm cs pa ru rb ch hh low mq ms up mw = some r ∧ q.1 = r.1 := by
  obtain ⟨k, S, P, h1, h2, hk, hP⟩ := id h
  obtain ⟨w, w1, w2, w3, w4⟩ := id hw
  obtain ⟨t, sg, l1, l2, l3⟩ := id hl
  obtain ⟨s, rfl, rfl, s1, s2⟩ := id hS
  have n10 : ¬ (1 : Int32) = 0 := by decide
  unfold f_X10_choose f_X11_choose
  rcases isWay_cases x1 with ⟨y, hy, rfl, i1, i2⟩ | ⟨i1, i2⟩
  · obtain ⟨q, e1, e2, e3⟩ := runWay_eq h1 w3 (w60 w4) (lw_hA l3) s1 s2 hy lac wc wch wpc wll wpl wpr wpp lr wlu wor' wpu
    obtain ⟨r, f1, f2, f3, -, -⟩ := layWay_eq h2 w2 (w60 w4) (lw_hB l1 l2 l3) s2 hy cs pa ru rb ch low up
    rw [i1, i2, ob_sb, ob_sb, if_neg n10, if_neg n10, e1, f1, ob_sb, ob_sb]
    have hok := wy_ok h1 s2 w (LwT sg t) hy
    by_cases g : x2 = -1
    · refine ⟨_, by rw [if_pos g], _, by rw [if_pos g], ?_⟩
      dsimp only
      rw [e2, f2]
    · rw [if_neg g, if_neg g]
      by_cases g4 : y ≤ 3
      · rw [if_pos (show nI y ≤ (3 : Int32) by rw [show (3 : Int32) = nI 3 from rfl, nI_leI (by omega) (by omega)]; exact g4)]
        obtain ⟨c1, c2⟩ := e3.1 g4
        rw [c1]
        unfold f_X8_chosenAt
        have hs1 : nI s - (1 : Int32) = nI (s - 1) := by rw [show (1 : Int32) = nI 1 from rfl, pk_sub (by omega)]
        rw [hs1]
        rcases in_cases x2 0 (nI (s - 1)) with ⟨a1, a2⟩ | ⟨a1, a2⟩
        · obtain ⟨m, m1, m2, rfl⟩ := rngN (lo := 0) (hi := s - 1) (by omega) a1 (by omega)
          refine ⟨_, by rw [if_neg (nI_nneg (by omega)), if_neg (by rw [nI_leI (by omega) (by omega)]; omega), if_neg (by rw [show (4 : Int32) = nI 4 from rfl, nI_leI (by omega) (by omega)]; omega), if_pos (ob_inN (by omega) (by decide)), ob_sb], _, by rw [a2, ob_sb, if_neg n10, if_pos (ob_inN (by omega) (by decide))], ?_⟩
          dsimp only
          rw [nI_clamp (by omega), c2 m (by omega), f3 g4 m (by omega)]
        · have e : (if x2 < 0 then some (-6 : Int32) else if nI s ≤ x2 then some (-6 : Int32) else if (4 : Int32) ≤ x2 then some (-6 : Int32) else if ob_in x2 4 = true then some (q.2.2.2.2.2.2.2.2.2.2.1 x2.toNatClampNeg) else none) = some (-6 : Int32) := by
            by_cases z : x2 < 0
            · rw [if_pos z]
            · rw [if_neg z, if_pos ?_]
              have z' : ¬ x2.toInt < (0 : Nat) := fun z2 => z ((iLt x2 (n := 0) (by decide)).mpr z2)
              have a1' : ¬ (((0 : Nat) : Int) ≤ x2.toInt ∧ x2.toInt ≤ (s - 1 : Nat)) := fun z => a1 ⟨(iGe x2 (n := 0) (by decide)).mpr z.1, (iLe x2 (by omega)).mpr z.2⟩
              refine (iGe x2 (by omega)).mpr ?_
              omega
          rw [e]
          exact ⟨_, rfl, _, by rw [a2, ob_sb, if_pos rfl], by rfl⟩
      · rw [if_neg (show ¬ nI y ≤ (3 : Int32) by rw [show (3 : Int32) = nI 3 from rfl, nI_leI (by omega) (by omega)]; exact g4)]
        obtain ⟨c1, c2⟩ := e3.2 (by omega)
        obtain ⟨v, v1, v2⟩ := nth_take hok.1 hok.2 c2 x2
        rw [c1, f2, v1, v2]
        exact ⟨_, rfl, _, rfl, rfl⟩
  · exact ⟨_, by rw [i1, ob_sb, if_pos rfl], _, by rw [i2, ob_sb, if_pos rfl], by rfl⟩
