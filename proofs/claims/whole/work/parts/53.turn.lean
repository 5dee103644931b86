/-! turn: both sides answer alike -/
/-- m papers of heap h laid onto a last heap -/
def Pm (k h : Nat) (P : Nat → Nat) (m : Nat) : Nat → Nat := fun j => if j = k then m else if j = h then P h - m else P j
def Sc (k c : Nat) (S : Nat → Nat) : Nat → Nat := fun j => if j = k then 2 ^ c else S j
theorem sm_put (P : Nat → Nat) {h v : Nat} : ∀ {k : Nat}, h < k → sm (fun j => if j = h then v else P j) k + P h = sm P k + v
  | 0, hh => absurd hh (Nat.not_lt_zero h)
  | k + 1, hh => by
    rw [sm_s, sm_s]
    by_cases g : h = k
    · subst g
      have e : sm (fun j => if j = h then v else P j) h = sm P h := sm_cong (fun j hj => by rw [if_neg (by omega)])
      rw [e, if_pos rfl]
      omega
    · have := sm_put P (h := h) (v := v) (k := k) (by omega)
      rw [if_neg (fun z => g z.symm)]
      omega
theorem sm_Pm {k h m : Nat} {P : Nat → Nat} (hh : h < k) (hm : m ≤ P h) : sm (Pm k h P m) (k + 1) = sm P k := by
  have e : sm (Pm k h P m) k = sm (fun j => if j = h then P h - m else P j) k := sm_cong (fun j hj => by unfold Pm; rw [if_neg (by omega)])
  have e2 := sm_put P (h := h) (v := P h - m) hh
  rw [sm_s, e]
  have e3 : Pm k h P m k = m := by unfold Pm; rw [if_pos rfl]
  omega
theorem pw8 : ∀ c, c < 8 → 2 ^ c < 256 := by decide
theorem hp_Pm {k h m c : Nat} {S P : Nat → Nat} {ts tp : Nat → Int32} (hk : k ≤ 6) (hc : c < 8) (hh : h < k) (hm : m ≤ P h) (hP : sm P k ≤ 600) (hS : ∀ j, j < k → ts j = nI (S j) ∧ S j < 256) (hSk : ts k = nI (2 ^ c)) (hp1 : ∀ j, j < k → ¬ j = h → tp j = nI (P j)) (hp2 : tp h = nI (P h - m)) (hp3 : tp k = nI m) : hp (nI (k + 1)) ts tp (k + 1) (Sc k c S) (Pm k h P m) := by
  refine ⟨rfl, by omega, fun j hj => ?_, by rw [sm_Pm hh hm]; exact hP⟩
  unfold Sc Pm
  by_cases g : j = k
  · subst g
    rw [if_pos rfl, if_pos rfl]
    exact ⟨hSk, pw8 c hc, hp3⟩
  · rw [if_neg g, if_neg g]
    refine ⟨(hS j (by omega)).1, (hS j (by omega)).2, ?_⟩
    by_cases g2 : j = h
    · subst g2
      rw [if_pos rfl]
      exact hp2
    · rw [if_neg g2]
      exact hp1 j (by omega) g2
theorem copy_eq (H hc : Int32) (hq hs tp ts : Nat → Int32) : ∃ tp2 ts2, f_X3_copyOf H hc hq hs tp ts = some (H, tp2, ts2) ∧ ∀ j, j < 7 → tp2 j = hq j ∧ ts2 j = hs j := by
  have h := up0 (k := 7) (fun n i => ∀ tp ts : Nat → Int32, (∀ j, j < i → tp j = hq j ∧ ts j = hs j) → ∃ tp2 ts2, lp_X3_copyOf_2 hq hs n (nI i) tp ts = some (tp2, ts2) ∧ ∀ j, j < 7 → tp2 j = hq j ∧ ts2 j = hs j) (by decide)
    (fun n tp ts a => ⟨tp, ts, by rw [lp_X3_copyOf_2, if_pos (by decide)], a⟩)
    (fun n i hi ih tp ts a => by
      rw [lp_X3_copyOf_2, if_neg (by rw [lt6 (by omega)]; omega)]
      simp (disch := omega) only [ob_inN, nI_clamp, ob_sb, eq_self, if_true, if_false, nI_1, nI_add, pk_mul]
      refine ih _ _ (fun j hj => ?_)
      by_cases g : j = i
      · subst g
        rw [pk_us, pk_us]
        exact ⟨rfl, rfl⟩
      · rw [pk_un g, pk_un g]
        exact a j (by omega))
  obtain ⟨tp2, ts2, e1, e2⟩ := h tp ts (fun j hj => by omega)
  refine ⟨tp2, ts2, ?_, e2⟩
  unfold f_X3_copyOf
  rw [show lp_X3_copyOf_2 hq hs FU (0 : Int32) tp ts = some (tp2, ts2) from e1, ob_sb]
/-- does c win when m papers are moved -/
def tw (y s k h c : Nat) (S P w : Nat → Nat) (Lw : Nat → Bool) (m : Nat) : Bool := decide (bt (wy y s (k + 1) (Sc k c S) (Pm k h P m) w Lw) c = 1)
theorem lt101 {a b : Nat} (ha : a ≤ 200) (hb : b ≤ 200) : nI a < nI b ↔ a < b := nI_ltI (by omega) (by omega)
theorem turnC_lp {k h c p : Nat} {S P : Nat → Nat} (hk : k ≤ 6) (hc : c < 8) (hh : h < k) (hp : P h = p) (hp1 : p ≤ 100) (hP : sm P k ≤ 600) {ts : Nat → Int32} (hS : ∀ j, j < k → ts j = nI (S j) ∧ S j < 256) (hSk : ts k = nI (2 ^ c)) {tg : Nat → Int32} {w : Nat → Nat} (ht : tgs tg w) (hw : ∀ n, n < 4 → w n ≤ 60) {Lw : Nat → Bool} {s : Nat} (hs4 : s ≤ 4) {y : Nat} (hy : y < 6) {lc : Int32} {row : Nat → Int32} (hL : y = 4 → lc = nI (cq (qs s Lw) 256) ∧ rowIs row (qs s Lw) 256)
    (kk : (Int32 × Int32 × Int32 × Int64 × Int64 × Int64 × Int32 × (Nat → Int32) × (Nat → Int64) × (Nat → Int32) × (Nat → Int64)) → Option (Int32 × Int32 × Int32 × Int32 × Int32 × Int32 × Int64 × Int64 × Int64 × Int32 × (Nat → Int32) × (Nat → Int32) × (Nat → Int32) × (Nat → Int64) × (Nat → Int32) × (Nat → Int64))) (hkk : ∀ z, ∃ q, kk z = some q ∧ q.1 = -6) :
    ∀ (wc wch wpc : Int32) (wll wpl wpr : Int64) (wpp : Int32) (tp : Nat → Int32) (wlu : Nat → Int64) (wor' : Nat → Int32) (wpu : Nat → Int64), ((∀ j, j < k → tp j = nI (P j)) ∧ tp k = nI 0) → ∃ q, lp_X10_turn_78 (nI y) (nI h) (nI c) (nI p) lc (nI s) (nI (k + 1)) row ts tg kk FU (0 : Int32) wc wch wpc wll wpl wpr wpp tp wlu wor' wpu = some q ∧ q.1 = encN (fbk (tw y s k h c S P w Lw) (p + 1)) := by
  have main := up0 (k := p + 1) (fun n m => ∀ (wc wch wpc : Int32) (wll wpl wpr : Int64) (wpp : Int32) (tp : Nat → Int32) (wlu : Nat → Int64) (wor' : Nat → Int32) (wpu : Nat → Int64), (m ≤ p → (∀ j, j < k → ¬ j = h → tp j = nI (P j)) ∧ tp h = nI (p - m) ∧ tp k = nI m) → (∀ i, i < m → ¬ tw y s k h c S P w Lw i = true) → ∃ q, lp_X10_turn_78 (nI y) (nI h) (nI c) (nI p) lc (nI s) (nI (k + 1)) row ts tg kk n (nI m) wc wch wpc wll wpl wpr wpp tp wlu wor' wpu = some q ∧ q.1 = encN (fbk (tw y s k h c S P w Lw) (p + 1))) (by omega)
    (fun n wc wch wpc wll wpl wpr wpp tp wlu wor' wpu a b => by
      obtain ⟨q, e1, e2⟩ := hkk (wc, wch, wpc, wll, wpl, wpr, wpp, tp, wlu, wor', wpu)
      exact ⟨q, by rw [lp_X10_turn_78, if_pos ((lt101 (by omega) (by omega)).mpr (by omega)), e1], by rw [e2, fbk_none b, encN_n]⟩)
    (fun n m hm ih wc wch wpc wll wpl wpr wpp tp wlu wor' wpu a b => by
      obtain ⟨a1, a2, a3⟩ := a (by omega)
      have hT := hp_Pm (c := c) hk hc hh (by omega) hP hS hSk a1 (by rw [a2, hp]) a3
      obtain ⟨q, e1, e2, -⟩ := run_eq hT ht hw (Lw := Lw) hs4 hy hL wll wpl wpr wpp wc wch wpc wlu wor' wpu
      have hok := wy_ok hT hs4 w Lw hy
      rw [lp_X10_turn_78, if_neg (by rw [lt101 (by omega) (by omega)]; omega), e1, ob_sb, e2, holds_eq hok.1 hc, ob_sb]
      by_cases g : bt (wy y s (k + 1) (Sc k c S) (Pm k h P m) w Lw) c = 1
      · have gT : tw y s k h c S P w Lw m = true := decide_eq_true g
        refine ⟨_, by rw [if_neg (by rw [g]; decide)], ?_⟩
        dsimp only
        rw [fbk_first hm gT b, encN_s]
      · have gF : ¬ tw y s k h c S P w Lw m = true := fun z => g (of_decide_eq_true z)
        have g0 : bt (wy y s (k + 1) (Sc k c S) (Pm k h P m) w Lw) c = 0 := by
          rcases bt_01 (wy y s (k + 1) (Sc k c S) (Pm k h P m) w Lw) c with z | z
          · exact z
          · exact absurd z g
        have b' : ∀ i, i < m + 1 → ¬ tw y s k h c S P w Lw i = true := fun i hi => by
          rcases Nat.lt_or_ge i m with z | z
          · exact b i z
          · obtain rfl : i = m := by omega
            exact gF
        have ek : nI (k + 1) - (1 : Int32) = nI k := nI_pred k
        have ein : ob_in (nI h) 7 = true := ob_inN (by omega) (by decide)
        have ekn : ob_in (nI k) 7 = true := ob_inN (by omega) (by decide)
        have ecl : (nI h).toNatClampNeg = h := nI_clamp (by omega)
        have eck : (nI k).toNatClampNeg = k := nI_clamp (by omega)
        rw [if_pos (by rw [g0]; rfl)]
        unfold f_X3_moveToLast
        rw [if_neg (nI_nneg (by omega)), ek, if_neg (by rw [nI_leI (by omega) (by omega)]; omega), if_neg (by rw [show (7 : Int32) = nI 7 from rfl, nI_ltI (by omega) (by omega)]; omega), if_pos ein, ecl, a2, nI_1]
        by_cases z : m = p
        · subst z
          rw [if_pos (by rw [Nat.sub_self]; decide), ob_sb]
          exact ih _ _ _ _ _ _ _ _ _ _ _ (fun z => by omega) b'
        · obtain ⟨d, hd⟩ : ∃ d, p - m = d + 1 := ⟨p - m - 1, by omega⟩
          rw [hd, nI_pred, if_neg (nI_nle (by omega) (by omega)), if_pos ein, if_pos ein, if_pos ekn, if_pos ekn, eck, ob_sb]
          refine ih _ _ _ _ _ _ _ _ _ _ _ (fun _ => ⟨fun j hj g => ?_, ?_, ?_⟩) b'
          · rw [pk_un (by omega), pk_un g]
            exact a1 j hj g
          · rw [pk_un (by omega), pk_us]
            congr 1
            omega
          · rw [pk_us, pk_un (by omega), a3, nI_1])
  intro wc wch wpc wll wpl wpr wpp tp wlu wor' wpu a
  exact main wc wch wpc wll wpl wpr wpp tp wlu wor' wpu (fun _ => ⟨fun j hj _ => a.1 j hj, by rw [a.1 h hh, hp]; rfl, a.2⟩) (fun i hi => absurd hi (Nat.not_lt_zero i))
theorem turnM_lp {k h c p : Nat} {S P : Nat → Nat} (hk : k ≤ 6) (hc : c < 8) (hh : h < k) (hp : P h = p) (hp1 : p ≤ 100) (hp0 : 1 ≤ p) (hP : sm P k ≤ 600) {wo : Nat → Int32} {w : Nat → Nat} (ht : wts wo w) (hw : ∀ n, n < 4 → w n ≤ 60) {hm : Int32} {hhs : Nat → Int32} {Lw : Nat → Bool} (hB : ∀ x, x < 256 → ∃ r, f_X11_barOf (nI x) hm hhs = some r ∧ (Lw x = true → r < 0 ∧ ¬ 0 ≤ r) ∧ (¬ Lw x = true → 0 ≤ r ∧ ¬ r < 0)) {s : Nat} (hs4 : s ≤ 4) {y : Nat} (hy : y < 6) (h0 : ¬ tw y s k h c S P w Lw 0 = true) :
    ∀ (cs pa : Int32) (ru rb : Int64) (ch : Nat → Int32) (low : Nat → Int64) (mp msx : Nat → Int32) (up : Nat → Int64), (∀ j, j < k → ¬ j = h → mp j = nI (P j)) → (∀ j, j < k → msx j = nI (S j) ∧ S j < 256) → ∃ q, lp_X11_turn_73 (nI y) (nI h) (nI c) (nI p) (nI (k + 1)) (nI s) hm hhs wo FU (-6 : Int32) (1 : Int32) cs pa ru rb ch low mp msx up = some q ∧ q.1 = encN (fbk (tw y s k h c S P w Lw) (p + 1)) ∧ (∀ j, j < k → ¬ j = h → q.2.2.2.2.2.2.2.1 j = nI (P j)) ∧ ∀ j, j < k → q.2.2.2.2.2.2.2.2.1 j = nI (S j) ∧ S j < 256 := by
  have main := up1 (k := p + 1) (fun n m => 1 ≤ m → ∀ (cs pa : Int32) (ru rb : Int64) (ch : Nat → Int32) (low : Nat → Int64) (mp msx : Nat → Int32) (up : Nat → Int64), (∀ j, j < k → ¬ j = h → mp j = nI (P j)) → (∀ j, j < k → msx j = nI (S j) ∧ S j < 256) → (∀ i, i < m → ¬ tw y s k h c S P w Lw i = true) → ∃ q, lp_X11_turn_73 (nI y) (nI h) (nI c) (nI p) (nI (k + 1)) (nI s) hm hhs wo (n + 1) (-6 : Int32) (nI m) cs pa ru rb ch low mp msx up = some q ∧ q.1 = encN (fbk (tw y s k h c S P w Lw) (p + 1)) ∧ (∀ j, j < k → ¬ j = h → q.2.2.2.2.2.2.2.1 j = nI (P j)) ∧ ∀ j, j < k → q.2.2.2.2.2.2.2.2.1 j = nI (S j) ∧ S j < 256) (by omega) (by omega)
    (fun n _ cs pa ru rb ch low mp msx up a1 a2 b => ⟨_, by rw [lp_X11_turn_73, if_pos ((lt101 (by omega) (by omega)).mpr (by omega))], by dsimp only; rw [fbk_none b, encN_n], by exact a1, by exact a2⟩)
    (fun n m hm' ih h1 cs pa ru rb ch low mp msx up a1 a2 b => by
      have ek : nI (k + 1) - (1 : Int32) = nI k := nI_pred k
      have ein : ob_in (nI h) 7 = true := ob_inN (by omega) (by decide)
      have ekn : ob_in (nI k) 7 = true := ob_inN (by omega) (by decide)
      have ecl : (nI h).toNatClampNeg = h := nI_clamp (by omega)
      have eck : (nI k).toNatClampNeg = k := nI_clamp (by omega)
      have esh : (1 : Int32) <<< (nI c &&& 31) = nI (2 ^ c) := pb_shl (by omega)
      rw [lp_X11_turn_73, if_neg (by rw [lt101 (by omega) (by omega)]; omega), if_neg (by decide), if_pos ein, ek, if_pos ekn, if_pos ekn, ecl, eck, esh, pk_sub (by omega), nI_1]
      have n1 : ∀ j, j < k → ¬ j = h → upd (upd mp h (nI (p - m))) k (nI m) j = nI (P j) := fun j hj g => by
        rw [pk_un (by omega), pk_un g]
        exact a1 j hj g
      have n2 : ∀ j, j < k → upd msx k (nI (2 ^ c)) j = nI (S j) ∧ S j < 256 := fun j hj => by
        rw [pk_un (by omega)]
        exact a2 j hj
      have hT := hp_Pm (ts := upd msx k (nI (2 ^ c))) (tp := upd (upd mp h (nI (p - m))) k (nI m)) (c := c) (m := m) hk hc hh (by omega) hP n2 pk_us n1 (by rw [pk_un (by omega), pk_us, hp]) pk_us
      obtain ⟨q, e1, e2, -⟩ := layWay_eq hT ht hw hB hs4 hy cs pa ru rb ch low up
      have hok := wy_ok hT hs4 w Lw hy
      rw [e1, ob_sb, e2, isLeft_eq hok.1 hc, ob_sb]
      by_cases g : bt (wy y s (k + 1) (Sc k c S) (Pm k h P m) w Lw) c = 1
      · have gT : tw y s k h c S P w Lw m = true := decide_eq_true g
        rw [if_pos (by rw [g]; rfl), lp_X11_turn_73]
        have e0 : (0 : Int32) ≤ nI m := nI_pos' (by omega)
        by_cases z : nI p < nI (m + 1)
        · exact ⟨_, by rw [if_pos z], by dsimp only; rw [fbk_first hm' gT b, encN_s], by exact n1, by exact n2⟩
        · exact ⟨_, by rw [if_neg z, if_pos e0], by dsimp only; rw [fbk_first hm' gT b, encN_s], by exact n1, by exact n2⟩
      · have gF : ¬ tw y s k h c S P w Lw m = true := fun z => g (of_decide_eq_true z)
        have g0 : bt (wy y s (k + 1) (Sc k c S) (Pm k h P m) w Lw) c = 0 := by
          rcases bt_01 (wy y s (k + 1) (Sc k c S) (Pm k h P m) w Lw) c with z | z
          · exact z
          · exact absurd z g
        rw [if_neg (by rw [g0]; decide)]
        refine ih (by omega) _ _ _ _ _ _ _ _ _ n1 n2 (fun i hi => ?_)
        rcases Nat.lt_or_ge i m with z | z
        · exact b i z
        · obtain rfl : i = m := by omega
          exact gF)
  sorry
