/-! turn: both sides answer alike -/
/-- m papers of heap h laid onto a last heap -/
def Pm (k h : Nat) (P : Nat → Nat) (m : Nat) : Nat → Nat := fun j => if j = k then m else if j = h then P h - m else P j
def Sc (k c : Nat) (S : Nat → Nat) : Nat → Nat := fun j => if j = k then 2 ^ c else S j
theorem sm_put (P : Nat → Nat) {h v : Nat} : ∀ {k : Nat}, h < k → sm (fun j => if j = h then v else P j) k + P h = sm P k + v
  | 0, hh => absurd hh (Nat.not_lt_zero h)
  | k + 1, hh => by
    rw [sm_s, sm_s]
    by_cases g : h = k
    · subst g
      have e : sm (fun j => if j = h then v else P j) h = sm P h := sm_cong (fun j hj => by rw [if_neg (by omega)])
      rw [e, if_pos rfl]
      omega
    · have := sm_put P (h := h) (v := v) (k := k) (by omega)
      rw [if_neg (fun z => g z.symm)]
      omega
theorem sm_Pm {k h m : Nat} {P : Nat → Nat} (hh : h < k) (hm : m ≤ P h) : sm (Pm k h P m) (k + 1) = sm P k := by
  have e : sm (Pm k h P m) k = sm (fun j => if j = h then P h - m else P j) k := sm_cong (fun j hj => by unfold Pm; rw [if_neg (by omega)])
  have e2 := sm_put P (h := h) (v := P h - m) hh
  rw [sm_s, e]
  have e3 : Pm k h P m k = m := by unfold Pm; rw [if_pos rfl]
  omega
theorem pw8 : ∀ c, c < 8 → 2 ^ c < 256 := by decide
theorem hp_Pm {k h m c : Nat} {S P : Nat → Nat} {ts tp : Nat → Int32} (hk : k ≤ 6) (hc : c < 8) (hh : h < k) (hm : m ≤ P h) (hP : sm P k ≤ 600) (hS : ∀ j, j < k → ts j = nI (S j) ∧ S j < 256) (hSk : ts k = nI (2 ^ c)) (hp1 : ∀ j, j < k → ¬ j = h → tp j = nI (P j)) (hp2 : tp h = nI (P h - m)) (hp3 : tp k = nI m) : hp (nI (k + 1)) ts tp (k + 1) (Sc k c S) (Pm k h P m) := by
  refine ⟨rfl, by omega, fun j hj => ?_, by rw [sm_Pm hh hm]; exact hP⟩
  unfold Sc Pm
  by_cases g : j = k
  · subst g
    rw [if_pos rfl, if_pos rfl]
    exact ⟨hSk, pw8 c hc, hp3⟩
  · rw [if_neg g, if_neg g]
    refine ⟨(hS j (by omega)).1, (hS j (by omega)).2, ?_⟩
    by_cases g2 : j = h
    · subst g2
      rw [if_pos rfl]
      exact hp2
    · rw [if_neg g2]
      exact hp1 j (by omega) g2
theorem copy_eq (H hc : Int32) (hq hs tp ts : Nat → Int32) : ∃ tp2 ts2, f_X3_copyOf H hc hq hs tp ts = some (H, tp2, ts2) ∧ ∀ j, j < 7 → tp2 j = hq j ∧ ts2 j = hs j := by
  have h := up0 (k := 7) (fun n i => ∀ tp ts : Nat → Int32, (∀ j, j < i → tp j = hq j ∧ ts j = hs j) → ∃ tp2 ts2, lp_X3_copyOf_2 hq hs n (nI i) tp ts = some (tp2, ts2) ∧ ∀ j, j < 7 → tp2 j = hq j ∧ ts2 j = hs j) (by decide)
    (fun n tp ts a => ⟨tp, ts, by rw [lp_X3_copyOf_2, if_pos (by decide)], a⟩)
    (fun n i hi ih tp ts a => by
      rw [lp_X3_copyOf_2, if_neg (by rw [lt6 (by omega)]; omega)]
      simp (disch := omega) only [ob_inN, nI_clamp, ob_sb, eq_self, if_true, if_false, nI_1, nI_add, pk_mul]
      refine ih _ _ (fun j hj => ?_)
      by_cases g : j = i
      · subst g
        rw [pk_us, pk_us]
        exact ⟨rfl, rfl⟩
      · rw [pk_un g, pk_un g]
        exact a j (by omega))
  obtain ⟨tp2, ts2, e1, e2⟩ := h tp ts (fun j hj => by omega)
  refine ⟨tp2, ts2, ?_, e2⟩
  unfold f_X3_copyOf
  rw [show lp_X3_copyOf_2 hq hs FU (0 : Int32) tp ts = some (tp2, ts2) from e1, ob_sb]
/-- does c win when m papers are moved -/
def tw (y s k h c : Nat) (S P w : Nat → Nat) (Lw : Nat → Bool) (m : Nat) : Bool := decide (bt (wy y s (k + 1) (Sc k c S) (Pm k h P m) w Lw) c = 1)
theorem lt101 {a b : Nat} (ha : a ≤ 200) (hb : b ≤ 200) : nI a < nI b ↔ a < b := nI_ltI (by omega) (by omega)
theorem turnC_lp {k h c p : Nat} {S P : Nat → Nat} (hk : k ≤ 6) (hc : c < 8) (hh : h < k) (hp : P h = p) (hp1 : p ≤ 100) (hP : sm P k ≤ 600) {ts : Nat → Int32} (hS : ∀ j, j < k → ts j = nI (S j) ∧ S j < 256) (hSk : ts k = nI (2 ^ c)) {tg : Nat → Int32} {w : Nat → Nat} (ht : tgs tg w) (hw : ∀ n, n < 4 → w n ≤ 60) {Lw : Nat → Bool} {s : Nat} (hs4 : s ≤ 4) {y : Nat} (hy : y < 6) {lc : Int32} {row : Nat → Int32} (hL : y = 4 → lc = nI (cq (qs s Lw) 256) ∧ rowIs row (qs s Lw) 256)
    (kk : (Int32 × Int32 × Int32 × Int64 × Int64 × Int64 × Int32 × (Nat → Int32) × (Nat → Int64) × (Nat → Int32) × (Nat → Int64)) → Option (Int32 × Int32 × Int32 × Int32 × Int32 × Int32 × Int64 × Int64 × Int64 × Int32 × (Nat → Int32) × (Nat → Int32) × (Nat → Int32) × (Nat → Int64) × (Nat → Int32) × (Nat → Int64))) (hkk : ∀ z, ∃ q, kk z = some q ∧ q.1 = -6) :
    ∀ (wc wch wpc : Int32) (wll wpl wpr : Int64) (wpp : Int32) (tp : Nat → Int32) (wlu : Nat → Int64) (wor' : Nat → Int32) (wpu : Nat → Int64), ((∀ j, j < k → tp j = nI (P j)) ∧ tp k = nI 0) → ∃ q, lp_X10_turn_78 (nI y) (nI h) (nI c) (nI p) lc (nI s) (nI (k + 1)) row ts tg kk FU (0 : Int32) wc wch wpc wll wpl wpr wpp tp wlu wor' wpu = some q ∧ q.1 = encN (fbk (tw y s k h c S P w Lw) (p + 1)) := by
  have main := up0 (k := p + 1) (fun n m => ∀ (wc wch wpc : Int32) (wll wpl wpr : Int64) (wpp : Int32) (tp : Nat → Int32) (wlu : Nat → Int64) (wor' : Nat → Int32) (wpu : Nat → Int64), (m ≤ p → (∀ j, j < k → ¬ j = h → tp j = nI (P j)) ∧ tp h = nI (p - m) ∧ tp k = nI m) → (∀ i, i < m → ¬ tw y s k h c S P w Lw i = true) → ∃ q, lp_X10_turn_78 (nI y) (nI h) (nI c) (nI p) lc (nI s) (nI (k + 1)) row ts tg kk n (nI m) wc wch wpc wll wpl wpr wpp tp wlu wor' wpu = some q ∧ q.1 = encN (fbk (tw y s k h c S P w Lw) (p + 1))) (by omega)
    (fun n wc wch wpc wll wpl wpr wpp tp wlu wor' wpu a b => by
      obtain ⟨q, e1, e2⟩ := hkk (wc, wch, wpc, wll, wpl, wpr, wpp, tp, wlu, wor', wpu)
      exact ⟨q, by rw [lp_X10_turn_78, if_pos ((lt101 (by omega) (by omega)).mpr (by omega)), e1], by rw [e2, fbk_none b, encN_n]⟩)
    (fun n m hm ih wc wch wpc wll wpl wpr wpp tp wlu wor' wpu a b => by
      obtain ⟨a1, a2, a3⟩ := a (by omega)
      have hT := hp_Pm (c := c) hk hc hh (by omega) hP hS hSk a1 (by rw [a2, hp]) a3
      obtain ⟨q, e1, e2, -⟩ := run_eq hT ht hw (Lw := Lw) hs4 hy hL wll wpl wpr wpp wc wch wpc wlu wor' wpu
      have hok := wy_ok hT hs4 w Lw hy
      rw [lp_X10_turn_78, if_neg (by rw [lt101 (by omega) (by omega)]; omega), e1, ob_sb, e2, holds_eq hok.1 hc, ob_sb]
      by_cases g : bt (wy y s (k + 1) (Sc k c S) (Pm k h P m) w Lw) c = 1
      · have gT : tw y s k h c S P w Lw m = true := decide_eq_true g
        refine ⟨_, by rw [if_neg (by rw [g]; decide)], ?_⟩
        dsimp only
        rw [fbk_first hm gT b, encN_s]
      · have gF : ¬ tw y s k h c S P w Lw m = true := fun z => g (of_decide_eq_true z)
        have g0 : bt (wy y s (k + 1) (Sc k c S) (Pm k h P m) w Lw) c = 0 := by
          rcases bt_01 (wy y s (k + 1) (Sc k c S) (Pm k h P m) w Lw) c with z | z
          · exact z
          · exact absurd z g
        have b' : ∀ i, i < m + 1 → ¬ tw y s k h c S P w Lw i = true := fun i hi => by
          rcases Nat.lt_or_ge i m with z | z
          · exact b i z
          · obtain rfl : i = m := by omega
            exact gF
        have ek : nI (k + 1) - (1 : Int32) = nI k := nI_pred k
        have ein : ob_in (nI h) 7 = true := ob_inN (by omega) (by decide)
        have ekn : ob_in (nI k) 7 = true := ob_inN (by omega) (by decide)
        have ecl : (nI h).toNatClampNeg = h := nI_clamp (by omega)
        have eck : (nI k).toNatClampNeg = k := nI_clamp (by omega)
        rw [if_pos (by rw [g0]; rfl)]
        unfold f_X3_moveToLast
        rw [if_neg (nI_nneg (by omega)), ek, if_neg (by rw [nI_leI (by omega) (by omega)]; omega), if_neg (by rw [show (7 : Int32) = nI 7 from rfl, nI_ltI (by omega) (by omega)]; omega), if_pos ein, ecl, a2, nI_1]
        by_cases z : m = p
        · subst z
          rw [if_pos (by rw [Nat.sub_self]; decide), ob_sb]
          exact ih _ _ _ _ _ _ _ _ _ _ _ (fun z => by omega) b'
        · obtain ⟨d, hd⟩ : ∃ d, p - m = d + 1 := ⟨p - m - 1, by omega⟩
          rw [hd, nI_pred, if_neg (nI_nle (by omega) (by omega)), if_pos ein, if_pos ein, if_pos ekn, if_pos ekn, eck, ob_sb]
          refine ih _ _ _ _ _ _ _ _ _ _ _ (fun _ => ⟨fun j hj g => ?_, ?_, ?_⟩) b'
          · rw [pk_un (by omega), pk_un g]
            exact a1 j hj g
          · rw [pk_un (by omega), pk_us]
            congr 1
            omega
          · rw [pk_us, pk_un (by omega), a3, nI_1])
  intro wc wch wpc wll wpl wpr wpp tp wlu wor' wpu a
  exact main wc wch wpc wll wpl wpr wpp tp wlu wor' wpu (fun _ => ⟨fun j hj _ => a.1 j hj, by rw [a.1 h hh, hp]; rfl, a.2⟩) (fun i hi => absurd hi (Nat.not_lt_zero i))
theorem turnM_lp {k h c p : Nat} {S P : Nat → Nat} (hk : k ≤ 6) (hc : c < 8) (hh : h < k) (hp : P h = p) (hp1 : p ≤ 100) (hp0 : 1 ≤ p) (hP : sm P k ≤ 600) {wo : Nat → Int32} {w : Nat → Nat} (ht : wts wo w) (hw : ∀ n, n < 4 → w n ≤ 60) {hm : Int32} {hhs : Nat → Int32} {Lw : Nat → Bool} (hB : ∀ x, x < 256 → ∃ r, f_X11_barOf (nI x) hm hhs = some r ∧ (Lw x = true → r < 0 ∧ ¬ 0 ≤ r) ∧ (¬ Lw x = true → 0 ≤ r ∧ ¬ r < 0)) {s : Nat} (hs4 : s ≤ 4) {y : Nat} (hy : y < 6) (h0 : ¬ tw y s k h c S P w Lw 0 = true) :
    ∀ (cs pa : Int32) (ru rb : Int64) (ch : Nat → Int32) (low : Nat → Int64) (mp msx : Nat → Int32) (up : Nat → Int64), (∀ j, j < k → ¬ j = h → mp j = nI (P j)) → (∀ j, j < k → msx j = nI (S j) ∧ S j < 256) → ∃ q, lp_X11_turn_73 (nI y) (nI h) (nI c) (nI p) (nI (k + 1)) (nI s) hm hhs wo FU (-6 : Int32) (1 : Int32) cs pa ru rb ch low mp msx up = some q ∧ q.1 = encN (fbk (tw y s k h c S P w Lw) (p + 1)) ∧ (∀ j, j < k → ¬ j = h → q.2.2.2.2.2.2.2.1 j = nI (P j)) ∧ ∀ j, j < k → q.2.2.2.2.2.2.2.2.1 j = nI (S j) ∧ S j < 256 := by
  have main := up_ind (k := p + 1) (Pr := fun n m => 1 ≤ m → ∀ (cs pa : Int32) (ru rb : Int64) (ch : Nat → Int32) (low : Nat → Int64) (mp msx : Nat → Int32) (up : Nat → Int64), (∀ j, j < k → ¬ j = h → mp j = nI (P j)) → (∀ j, j < k → msx j = nI (S j) ∧ S j < 256) → (∀ i, i < m → ¬ tw y s k h c S P w Lw i = true) → ∃ q, lp_X11_turn_73 (nI y) (nI h) (nI c) (nI p) (nI (k + 1)) (nI s) hm hhs wo (n + 1) (-6 : Int32) (nI m) cs pa ru rb ch low mp msx up = some q ∧ q.1 = encN (fbk (tw y s k h c S P w Lw) (p + 1)) ∧ (∀ j, j < k → ¬ j = h → q.2.2.2.2.2.2.2.1 j = nI (P j)) ∧ ∀ j, j < k → q.2.2.2.2.2.2.2.2.1 j = nI (S j) ∧ S j < 256)
    (fun n _ cs pa ru rb ch low mp msx up a1 a2 b => ⟨_, by rw [lp_X11_turn_73, if_pos ((lt101 (by omega) (by omega)).mpr (by omega))], by dsimp only; rw [fbk_none b, encN_n], by exact a1, by exact a2⟩)
    (fun n m hm' ih h1 cs pa ru rb ch low mp msx up a1 a2 b => by
      have ek : nI (k + 1) - (1 : Int32) = nI k := nI_pred k
      have ein : ob_in (nI h) 7 = true := ob_inN (by omega) (by decide)
      have ekn : ob_in (nI k) 7 = true := ob_inN (by omega) (by decide)
      have ecl : (nI h).toNatClampNeg = h := nI_clamp (by omega)
      have eck : (nI k).toNatClampNeg = k := nI_clamp (by omega)
      have esh : (1 : Int32) <<< (nI c &&& 31) = nI (2 ^ c) := pb_shl (by omega)
      rw [lp_X11_turn_73, if_neg (by rw [lt101 (by omega) (by omega)]; omega), if_neg (by decide), if_pos ein, ek, if_pos ekn, if_pos ekn, ecl, eck, esh, pk_sub (by omega), nI_1]
      have n1 : ∀ j, j < k → ¬ j = h → upd (upd mp h (nI (p - m))) k (nI m) j = nI (P j) := fun j hj g => by
        rw [pk_un (by omega), pk_un g]
        exact a1 j hj g
      have n2 : ∀ j, j < k → upd msx k (nI (2 ^ c)) j = nI (S j) ∧ S j < 256 := fun j hj => by
        rw [pk_un (by omega)]
        exact a2 j hj
      have hT := hp_Pm (ts := upd msx k (nI (2 ^ c))) (tp := upd (upd mp h (nI (p - m))) k (nI m)) (c := c) (m := m) hk hc hh (by omega) hP n2 pk_us n1 (by rw [pk_un (by omega), pk_us, hp]) pk_us
      obtain ⟨q, e1, e2, -⟩ := layWay_eq hT ht hw hB hs4 hy cs pa ru rb ch low up
      have hok := wy_ok hT hs4 w Lw hy
      rw [e1, ob_sb, e2, isLeft_eq hok.1 hc, ob_sb]
      by_cases g : bt (wy y s (k + 1) (Sc k c S) (Pm k h P m) w Lw) c = 1
      · have gT : tw y s k h c S P w Lw m = true := decide_eq_true g
        rw [if_pos (by rw [g]; rfl), lp_X11_turn_73]
        have e0 : (0 : Int32) ≤ nI m := nI_pos' (by omega)
        by_cases z : nI p < nI (m + 1)
        · exact ⟨_, by rw [if_pos z], by dsimp only; rw [fbk_first hm' gT b, encN_s], by exact n1, by exact n2⟩
        · exact ⟨_, by rw [if_neg z, if_pos e0], by dsimp only; rw [fbk_first hm' gT b, encN_s], by exact n1, by exact n2⟩
      · have gF : ¬ tw y s k h c S P w Lw m = true := fun z => g (of_decide_eq_true z)
        have g0 : bt (wy y s (k + 1) (Sc k c S) (Pm k h P m) w Lw) c = 0 := by
          rcases bt_01 (wy y s (k + 1) (Sc k c S) (Pm k h P m) w Lw) c with z | z
          · exact z
          · exact absurd z g
        rw [if_neg (by rw [g0]; decide)]
        refine ih (by omega) _ _ _ _ _ _ _ _ _ n1 n2 (fun i hi => ?_)
        rcases Nat.lt_or_ge i m with z | z
        · exact b i z
        · obtain rfl : i = m := by omega
          exact gF) 299 1 (by omega) (by omega)
  intro cs pa ru rb ch low mp msx up a1 a2
  exact main (Nat.le_refl 1) cs pa ru rb ch low mp msx up a1 a2 (fun i hi => by
    obtain rfl : i = 0 := by omega
    exact h0)
theorem op_turn {hc : Int32} {hs hq : Nat → Int32} {mc : Int32} {ms mq : Nat → Int32} (h : RH hc hs hq mc ms mq) {ea tg mw : Nat → Int32} (hw : RW ea tg mw) {lc : Int32} {ls lf ld : Nat → Int32} {hm : Int32} {hh : Nat → Int32} (hl : RLn lc ls lf ld hm hh) {sc se : Int32} (hS : RS sc se) (x1 x2 x3 : Int32) (lac tc wc wch wpc : Int32) (wll wpl wpr : Int64) (wpp : Int32) (lr tp ts : Nat → Int32) (wlu : Nat → Int64) (wor' : Nat → Int32) (wpu : Nat → Int64) (cs pa : Int32) (ru rb : Int64) (ch : Nat → Int32) (low up : Nat → Int64) : ∃ q, f_X10_turn x1 x2 x3 hc lac lc sc tc wc wch wpc wll wpl wpr wpp hq hs lr ld lf ls tp ts wlu wor' wpu tg = some q ∧ ∃ r, f_X11_turn x1 x2 x3 mc se hm cs pa ru rb ch hh low mq ms up mw = some r ∧ q.1 = r.1 ∧ RH hc hs hq r.2.1 r.2.2.2.2.2.2.2.2.2.1 r.2.2.2.2.2.2.2.2.1 := by
  obtain ⟨k, S, P, h1, h2, hk, hP⟩ := id h
  obtain ⟨w, w1, w2, w3, w4⟩ := id hw
  obtain ⟨t, sg, l1, l2, l3⟩ := id hl
  obtain ⟨s, rfl, rfl, s1, s2⟩ := id hS
  obtain ⟨rfl, hk7, hh1, hsm⟩ := id h1
  obtain ⟨rfl, -, hh2, -⟩ := id h2
  have n10 : ¬ (1 : Int32) = 0 := by decide
  unfold f_X10_turn f_X11_turn
  rcases isWay_cases x1 with ⟨y, hy, rfl, i1, i2⟩ | ⟨i1, i2⟩
  · rw [i1, i2, ob_sb, ob_sb, if_neg n10, if_neg n10]
    rcases isHeap_cases hk x2 with ⟨j, hj, rfl, j1, j2⟩ | ⟨j1, j2⟩
    · rw [j1, j2, ob_sb, ob_sb, if_neg n10, if_neg n10]
      rcases in_cases x3 0 7 with ⟨a1, a2⟩ | ⟨a1, a2⟩
      · obtain ⟨c, c1, c2, rfl⟩ := rngN (lo := 0) (hi := 7) (by decide) a1 (by decide)
        have hc8 : c < 8 := by omega
        have ein : ob_in (nI j) 7 = true := ob_inN (by omega) (by decide)
        have ecl : (nI j).toNatClampNeg = j := nI_clamp (by omega)
        have esh : (1 : Int32) <<< (nI c &&& 31) = nI (2 ^ c) := pb_shl (by omega)
        obtain ⟨pj0, pj1⟩ := hP j hj
        have ejP := (hh1 j hj).2.2
        have ejM := (hh2 j hj).2.2
        -- the class
        obtain ⟨r2, g1, g2⟩ := gather_eq (lw_hA l3) s1 s2 lac lr
        obtain ⟨tp2, ts2, d1, d2⟩ := copy_eq (nI k) tc hq hs tp ts
        have e1 : f_X3_append (nI (2 ^ c)) (0 : Int32) (nI k) tp2 ts2 = some (nI (k + 1), upd tp2 k 0, upd ts2 k (nI (2 ^ c))) := by
          unfold f_X3_append
          rw [if_neg (nI_nneg (by omega)), if_neg (by rw [lt6 (by omega)]; omega)]
          simp (disch := omega) only [ob_inN, nI_clamp, ob_sb, eq_self, if_true, if_false, nI_1, nI_add, pk_mul]
        obtain ⟨q, q1, q2⟩ := turnC_lp (lc := nI (cq (qs s (LwT sg t)) 256)) (row := r2) (ts := upd ts2 k (nI (2 ^ c))) hk hc8 hj rfl pj1 hsm (fun i hi => by rw [pk_un (by omega), (d2 i (by omega)).2]; exact ⟨(hh1 i hi).1, (hh1 i hi).2.1⟩) pk_us w3 (w60 w4) (Lw := LwT sg t) s2 hy (fun _ => ⟨rfl, g2⟩) (fun q16 => some ((-6 : Int32), nI (cq (qs s (LwT sg t)) 256), nI (k + 1), q16.1, q16.2.1, q16.2.2.1, q16.2.2.2.1, q16.2.2.2.2.1, q16.2.2.2.2.2.1, q16.2.2.2.2.2.2.1, r2, q16.2.2.2.2.2.2.2.1, upd ts2 k (nI (2 ^ c)), q16.2.2.2.2.2.2.2.2.1, q16.2.2.2.2.2.2.2.2.2.1, q16.2.2.2.2.2.2.2.2.2.2)) (fun z => ⟨_, rfl, rfl⟩) wc wch wpc wll wpl wpr wpp (upd tp2 k 0) wlu wor' wpu ⟨fun i hi => by rw [pk_un (by omega), (d2 i (by omega)).1]; exact (hh1 i hi).2.2, pk_us⟩
        refine ⟨q, ?_, ?_⟩
        · rw [if_neg (nI_nneg (by omega)), if_pos (show nI c < (8 : Int32) by rw [show (8 : Int32) = nI 8 from rfl, nI_ltI (by omega) (by omega)]; omega), g1, ob_sb, d1, ob_sb]
          dsimp only
          rw [esh, e1, ob_sb, if_pos ein, ecl, ejP]
          exact q1
        -- the reference
        · rw [a2, ob_sb, if_neg n10, if_pos ein, ecl, ejM]
          have hT : hp (nI k) ms mq k (Sc k c S) (Pm k j P 0) := by
            have ePm : ∀ i, i < k → Pm k j P 0 i = P i := fun i hi => by
              unfold Pm
              rw [if_neg (by omega)]
              by_cases z : i = j
              · subst z; rw [if_pos rfl]; rfl
              · rw [if_neg z]
            refine ⟨rfl, hk7, fun i hi => ?_, by rw [sm_cong ePm]; exact hsm⟩
            rw [ePm i hi]
            unfold Sc
            rw [if_neg (by omega)]
            exact hh2 i hi
          obtain ⟨r, f1, f2, -⟩ := layWay_eq hT w2 (w60 w4) (lw_hB l1 l2 l3) s2 hy cs pa ru rb ch low up
          have hok := wy_ok hT s2 w (LwT sg t) hy
          have ez : wy y s (k + 1) (Sc k c S) (Pm k j P 0) w (LwT sg t) = wy y s k (Sc k c S) (Pm k j P 0) w (LwT sg t) := wy_z (by unfold Pm; rw [if_pos rfl]) y s w (LwT sg t)
          have back : ∀ {p3 s3 : Nat → Int32}, (∀ i, i < k → ¬ i = j → p3 i = nI (P i)) → (∀ i, i < k → s3 i = nI (S i) ∧ S i < 256) → RH (nI k) hs hq (nI k) s3 (upd p3 j (nI (P j))) := fun b1 b2 => ⟨k, S, P, h1, ⟨rfl, hk7, fun i hi => ⟨(b2 i hi).1, (b2 i hi).2, by
              by_cases z : i = j
              · subst z; rw [pk_us]
              · rw [pk_un z]; exact b1 i hi z⟩, hsm⟩, hk, hP⟩
          have ek1 : nI k + (1 : Int32) = nI (k + 1) := nI_1 k
          have ekp : nI (k + 1) - (1 : Int32) = nI k := nI_pred k
          rw [f1, ob_sb, f2, isLeft_eq hok.1 hc8, ob_sb, ek1, ekp]
          by_cases g : bt (wy y s k (Sc k c S) (Pm k j P 0) w (LwT sg t)) c = 1
          · have gT : tw y s k j c S P w (LwT sg t) 0 = true := decide_eq_true (by rw [ez]; exact g)
            rw [if_pos (by rw [g]; rfl)]
            have e0 : lp_X11_turn_73 (nI y) (nI j) (nI c) (nI (P j)) (nI (k + 1)) (nI s) hm hh mw FU (0 : Int32) (1 : Int32) (nI (wy y s k (Sc k c S) (Pm k j P 0) w (LwT sg t))) r.2.1 r.2.2.1 r.2.2.2.1 r.2.2.2.2.1 r.2.2.2.2.2.1 mq ms r.2.2.2.2.2.2 = some ((0 : Int32), nI (wy y s k (Sc k c S) (Pm k j P 0) w (LwT sg t)), r.2.1, r.2.2.1, r.2.2.2.1, r.2.2.2.2.1, r.2.2.2.2.2.1, mq, ms, r.2.2.2.2.2.2) := by
              rw [show FU = 299 + 1 from rfl, lp_X11_turn_73, if_neg (by rw [show (1 : Int32) = nI 1 from rfl, nI_ltI (by omega) (by omega)]; omega), if_pos (by decide)]
            rw [e0, ob_sb, if_pos ein]
            refine ⟨_, rfl, ?_, ?_⟩
            · dsimp only
              rw [q2, fbk_first (by omega) gT (fun i hi => absurd hi (Nat.not_lt_zero i)), encN_s]
              rfl
            · exact back (fun i hi _ => (hh2 i hi).2.2) (fun i hi => ⟨(hh2 i hi).1, (hh2 i hi).2.1⟩)
          · have gF : ¬ tw y s k j c S P w (LwT sg t) 0 = true := fun z => g (by rw [← ez]; exact of_decide_eq_true z)
            have g0 : bt (wy y s k (Sc k c S) (Pm k j P 0) w (LwT sg t)) c = 0 := by
              rcases bt_01 (wy y s k (Sc k c S) (Pm k j P 0) w (LwT sg t)) c with z | z
              · exact z
              · exact absurd z g
            obtain ⟨r3, u1, u2, u3, u4⟩ := turnM_lp hk hc8 hj rfl pj1 pj0 hsm w2 (w60 w4) (lw_hB l1 l2 l3) s2 hy gF (nI (wy y s k (Sc k c S) (Pm k j P 0) w (LwT sg t))) r.2.1 r.2.2.1 r.2.2.2.1 r.2.2.2.2.1 r.2.2.2.2.2.1 mq ms r.2.2.2.2.2.2 (fun i hi _ => (hh2 i hi).2.2) (fun i hi => ⟨(hh2 i hi).1, (hh2 i hi).2.1⟩)
            rw [if_neg (by rw [g0]; decide), u1, ob_sb, if_pos ein]
            refine ⟨_, rfl, ?_, ?_⟩
            · dsimp only
              rw [q2, u2]
            · exact back u3 u4
      · rw [a2, ob_sb, if_pos rfl]
        by_cases z : x3 < 0
        · exact ⟨_, by rw [if_pos z], _, rfl, by rfl, by exact h⟩
        · have z' : ¬ x3 < 8 := fun y => by
            have y := (iLt x3 (n := 8) (by decide)).mp y
            exact a1 ⟨fa_of_nlt z, (iLe x3 (n := 7) (by decide)).mpr (by omega)⟩
          exact ⟨_, by rw [if_neg z, if_neg z'], _, rfl, by rfl, by exact h⟩
    · exact ⟨_, by rw [j1, ob_sb, if_pos rfl], _, by rw [j2, ob_sb, if_pos rfl], by rfl, by exact h⟩
  · exact ⟨_, by rw [i1, ob_sb, if_pos rfl], _, by rw [i2, ob_sb, if_pos rfl], by rfl, by exact h⟩
