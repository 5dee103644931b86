/-! who is picked: the first of the most, among those that are left -/
def am (tk : Nat) (val : Nat → Nat) : Nat → Option Nat
  | 0 => none
  | n + 1 => match am tk val n with
    | none => if bt tk n = 0 then some n else none
    | some b => if bt tk n = 0 ∧ val b < val n then some n else some b
def encN : Option Nat → Int32
  | none => -6
  | some b => nI b
def encV (val : Nat → Nat) : Option Nat → Int32
  | none => -1
  | some b => nI (val b)
theorem encN_n : encN none = -6 := rfl
theorem encN_s (b : Nat) : encN (some b) = nI b := rfl
theorem encV_n (val : Nat → Nat) : encV val none = -1 := rfl
theorem encV_s (val : Nat → Nat) (b : Nat) : encV val (some b) = nI (val b) := rfl
theorem am_s (tk : Nat) (val : Nat → Nat) (n : Nat) : am tk val (n + 1) = match am tk val n with
    | none => if bt tk n = 0 then some n else none
    | some b => if bt tk n = 0 ∧ val b < val n then some n else some b := rfl
theorem am_in {tk : Nat} {val : Nat → Nat} : ∀ {n b : Nat}, am tk val n = some b → b < n ∧ bt tk b = 0 := by
  intro n
  induction n with
  | zero => intro b h; cases h
  | succ n ih =>
    intro b h
    rw [am_s] at h
    cases e : am tk val n with
    | none =>
      rw [e] at h
      dsimp only at h
      split at h
      · cases h; exact ⟨by omega, by assumption⟩
      · cases h
    | some d =>
      rw [e] at h
      dsimp only at h
      obtain ⟨h1, h2⟩ := ih e
      split at h
      · rename_i q; cases h; exact ⟨by omega, q.1⟩
      · cases h; exact ⟨by omega, h2⟩
theorem am_none {tk : Nat} {val : Nat → Nat} : ∀ {n : Nat}, am tk val n = none → ∀ c, c < n → bt tk c = 1 := by
  intro n
  induction n with
  | zero => intro _ c hc; omega
  | succ n ih =>
    intro h c hc
    rw [am_s] at h
    cases e : am tk val n with
    | none =>
      rw [e] at h
      dsimp only at h
      split at h
      · cases h
      · rename_i q
        rcases Nat.lt_or_ge c n with q1 | q1
        · exact ih e c q1
        · obtain rfl : c = n := by omega
          rcases bt_01 tk c with q2 | q2
          · exact absurd q2 q
          · exact q2
    | some d =>
      rw [e] at h
      dsimp only at h
      split at h <;> cases h
theorem am_cong {tk : Nat} {f g : Nat → Nat} (h : ∀ c, c < 8 → bt tk c = 0 → f c = g c) : ∀ {n : Nat}, n ≤ 8 → am tk f n = am tk g n := by
  intro n
  induction n with
  | zero => intro _; rfl
  | succ n ih =>
    intro hn
    rw [am_s, am_s, ih (by omega)]
    cases e : am tk g n with
    | none => rfl
    | some b =>
      dsimp only
      obtain ⟨h1, h2⟩ := am_in e
      by_cases q : bt tk n = 0
      · rw [h b (by omega) h2, h n (by omega) q]
      · rw [if_neg (fun z => q z.1), if_neg (fun z => q z.1)]
theorem pc8_full : ∀ x, x < 256 → pc8 x < 8 → ∃ c, c < 8 ∧ bt x c = 0 := by decide +kernel
/-- the one that is picked -/
def pk8 (tk : Nat) (val : Nat → Nat) : Nat := (am tk val 8).getD 0
theorem pk8_some {tk : Nat} (val : Nat → Nat) (hx : tk < 256) (hp : pc8 tk < 8) : am tk val 8 = some (pk8 tk val) ∧ pk8 tk val < 8 ∧ bt tk (pk8 tk val) = 0 := by
  unfold pk8
  cases e : am tk val 8 with
  | none =>
    obtain ⟨c, h1, h2⟩ := pc8_full tk hx hp
    have := am_none e c h1
    omega
  | some b => exact ⟨rfl, (am_in e).1, (am_in e).2⟩
theorem m1_le {v : Nat} (h : v < 2 ^ 31) : (-1 : Int32) ≤ nI v := by
  rw [fa_le, nI_toInt h]
  have : (-1 : Int32).toInt = -1 := by decide
  omega
theorem not_le_m1 {v : Nat} (h : v < 2 ^ 31) : ¬ nI v ≤ (-1 : Int32) := by
  rw [fa_le, nI_toInt h]
  have : (-1 : Int32).toInt = -1 := by decide
  omega
theorem nI_nneg {v : Nat} (h : v < 2 ^ 31) : ¬ nI v < (0 : Int32) := nI_pos h
theorem nI_ne6 {v : Nat} (h : v < 2 ^ 31) : ¬ nI v = (-6 : Int32) := by
  rw [fa_eq, nI_toInt h]
  have : (-6 : Int32).toInt = -6 := by decide
  omega
theorem le8 {i : Nat} (h : i < 2 ^ 31) : (8 : Int32) ≤ nI i ↔ 8 ≤ i := nI_leI (a := 8) (by decide) h
theorem encV_m1 {val : Nat → Nat} (hv : ∀ c, c < 8 → val c < 2 ^ 31) {o : Option Nat} (ho : ∀ b, o = some b → b < 8) : (-1 : Int32) ≤ encV val o := by
  cases o with
  | none => exact (by decide : (-1 : Int32) ≤ -1)
  | some b => exact m1_le (hv b (ho b rfl))
theorem bt_nI0 {s c : Nat} : (nI (bt s c) = 0) ↔ bt s c = 0 := by
  have := bt_lt s c
  exact nI_eq (b := 0) (by omega) (by decide)
/-- the class's loop of such a pick, whatever is asked of each -/
theorem pick_class {tk : Nat} {val : Nat → Nat} (hv : ∀ c, c < 8 → val c < 2 ^ 31) (lp : Nat → Int32 → Int32 → Int32 → Option Int32)
    (h8 : ∀ n (y4 y5 : Int32), lp (n + 1) y4 y5 (nI 8) = some y4)
    (hs : ∀ n (y4 y5 : Int32) i, i < 8 → lp (n + 1) y4 y5 (nI i) = if bt tk i = 0 then (if nI (val i) ≤ y5 then lp n y4 y5 (nI (i + 1)) else lp n (nI i) (nI (val i)) (nI (i + 1))) else (if (-1 : Int32) ≤ y5 then lp n y4 y5 (nI (i + 1)) else lp n (nI i) (-1 : Int32) (nI (i + 1)))) :
    lp FU (-6 : Int32) (-1 : Int32) (0 : Int32) = some (encN (am tk val 8)) := by
  have h1 := up0 (k := 8) (fun n i => lp n (encN (am tk val i)) (encV val (am tk val i)) (nI i) = some (encN (am tk val 8))) (by omega)
    (fun n => h8 n _ _)
    (fun n i hi ih => by
      rw [hs n _ _ i hi]
      rw [am_s] at ih
      cases e : am tk val i with
      | none =>
        rw [e] at ih
        dsimp only at ih
        rw [encN_n, encV_n]
        rcases bt_01 tk i with q | q
        · rw [if_pos q] at ih
          rw [if_pos q, if_neg (not_le_m1 (hv i hi))]
          exact ih
        · rw [if_neg (by omega)] at ih
          rw [if_neg (by omega), if_pos (by decide)]
          exact ih
      | some b =>
        obtain ⟨hb, -⟩ := am_in e
        rw [e] at ih
        dsimp only at ih
        rw [encN_s, encV_s]
        rcases bt_01 tk i with q | q
        · rw [if_pos q]
          by_cases g : val b < val i
          · rw [if_pos ⟨q, g⟩] at ih
            rw [if_neg (by rw [nI_leI (hv i hi) (hv b (by omega))]; omega)]
            exact ih
          · rw [if_neg (fun z => g z.2)] at ih
            rw [if_pos (by rw [nI_leI (hv i hi) (hv b (by omega))]; omega)]
            exact ih
        · rw [if_neg (fun z => by omega)] at ih
          rw [if_neg (by omega), if_pos (m1_le (hv b (by omega)))]
          exact ih)
  exact h1
/-- the reference's loop of such a pick -/
theorem pick_model {tk : Nat} {val : Nat → Nat} (lp : Nat → Int32 → Int32 → Option Int32)
    (h8 : ∀ n (y1 : Int32), lp (n + 1) y1 (nI 8) = some y1)
    (hN : ∀ n i, i < 8 → lp (n + 1) (-6 : Int32) (nI i) = if bt tk i = 0 then lp n (nI i) (nI (i + 1)) else lp n (-6 : Int32) (nI (i + 1)))
    (hS : ∀ n b i, b < 8 → i < 8 → lp (n + 1) (nI b) (nI i) = if bt tk i = 0 then (if val i ≤ val b then lp n (nI b) (nI (i + 1)) else lp n (nI i) (nI (i + 1))) else lp n (nI b) (nI (i + 1))) :
    lp FU (-6 : Int32) (0 : Int32) = some (encN (am tk val 8)) := by
  have h1 := up0 (k := 8) (fun n i => lp n (encN (am tk val i)) (nI i) = some (encN (am tk val 8))) (by omega)
    (fun n => h8 n _)
    (fun n i hi ih => by
      rw [am_s] at ih
      cases e : am tk val i with
      | none =>
        rw [e] at ih
        dsimp only at ih
        rw [encN_n, hN n i hi]
        rcases bt_01 tk i with q | q
        · rw [if_pos q] at ih
          rw [if_pos q]
          exact ih
        · rw [if_neg (by omega)] at ih
          rw [if_neg (by omega)]
          exact ih
      | some b =>
        obtain ⟨hb, -⟩ := am_in e
        rw [e] at ih
        dsimp only at ih
        rw [encN_s, hS n b i (by omega) hi]
        rcases bt_01 tk i with q | q
        · rw [if_pos q]
          by_cases g : val b < val i
          · rw [if_pos ⟨q, g⟩] at ih
            rw [if_neg (by omega)]
            exact ih
          · rw [if_neg (fun z => g z.2)] at ih
            rw [if_pos (by omega)]
            exact ih
        · rw [if_neg (fun z => by omega)] at ih
          rw [if_neg (by omega)]
          exact ih)
  exact h1
theorem or_pow_lt : ∀ x, x < 256 → ∀ c, c < 8 → x ||| 2 ^ c < 256 := by decide +kernel
theorem pc8_or : ∀ x, x < 256 → ∀ c, c < 8 → bt x c = 0 → pc8 (x ||| 2 ^ c) = pc8 x + 1 := by decide +kernel
theorem pb_or1 {x c : Nat} (hc : c < 8) : nI x ||| ((1 : Int32) <<< (nI c &&& 31)) = nI (x ||| 2 ^ c) := by rw [pb_shl (by omega), fa_or]
/-- all worths together stay small -/
theorem pre4_le {w : Nat → Nat} (hw : ∀ n, n < 4 → w n ≤ 60) (n : Nat) : pre4 w n ≤ 240 := by
  unfold pre4
  have h1 := sm_mono w (show min n 4 ≤ 4 by omega)
  have h2 : sm w 4 = w 0 + w 1 + w 2 + w 3 := by rw [sm_s, sm_s, sm_s, sm_s, sm_0]; omega
  have := hw 0 (by omega)
  have := hw 1 (by omega)
  have := hw 2 (by omega)
  have := hw 3 (by omega)
  omega
theorem wor_le {k : Nat} {S P w : Nat → Nat} (hw : ∀ n, n < 4 → w n ≤ 60) (hP : sm P k ≤ 600) (x : Nat) : wor k S P w x ≤ 144000 := by
  have h1 : wor k S P w x ≤ sm (fun j => 240 * P j) k := sm_le (fun j _ => by
    have := pre4_le hw (pc8 (S j &&& x))
    rw [Nat.mul_comm]
    exact Nat.mul_le_mul_right _ this)
  rw [sm_mulL] at h1
  omega
theorem heads_pick {cnt : Int32} {sets papers : Nat → Int32} {k : Nat} {S P : Nat → Nat} (h : hp cnt sets papers k S P) {tk : Nat} (htk : tk < 256) (y2 y3 : Int32) : lp_X8_byHeads_20 y2 y3 cnt (nI tk) papers sets FU (-6 : Int32) (-1 : Int32) (0 : Int32) = some (encN (am tk (tel k S P) 8)) := by
  refine pick_class (fun c hc => ?_) (lp_X8_byHeads_20 y2 y3 cnt (nI tk) papers sets) (fun n y4 y5 => ?_) (fun n y4 y5 i hi => ?_)
  · have := tel_le k S P c
    have := h.2.2.2
    omega
  · rw [lp_X8_byHeads_20, if_pos (by decide)]
  · rw [lp_X8_byHeads_20, if_neg (by rw [le8 (by omega)]; omega), holds_eq htk hi, ob_sb, telling_eq h hi, ob_sb, nI_1]
    simp only [bt_nI0]
theorem worth_pick {cnt : Int32} {sets papers : Nat → Int32} {k : Nat} {S P : Nat → Nat} (h : hp cnt sets papers k S P) {tg : Nat → Int32} {w : Nat → Nat} (ht : tgs tg w) (hw : ∀ n, n < 4 → w n ≤ 60) {tk : Nat} (htk : tk < 256) (y2 y3 : Int32) : lp_X8_byWorth_17 y2 y3 cnt (nI tk) papers sets tg FU (-6 : Int32) (-1 : Int32) (0 : Int32) = some (encN (am tk (fun c => wor k S P w (tk ||| 2 ^ c)) 8)) := by
  refine pick_class (fun c hc => ?_) (lp_X8_byWorth_17 y2 y3 cnt (nI tk) papers sets tg) (fun n y4 y5 => ?_) (fun n y4 y5 i hi => ?_)
  · have := wor_le (S := S) hw h.2.2.2 (tk ||| 2 ^ c)
    omega
  · rw [lp_X8_byWorth_17, if_pos (by decide)]
  · rw [lp_X8_byWorth_17, if_neg (by rw [le8 (by omega)]; omega), holds_eq htk hi, ob_sb, pb_or1 hi, worthOf_eq h ht (or_pow_lt tk htk i hi), ob_sb, nI_1]
    simp only [bt_nI0]
theorem most_pick {cnt : Int32} {sets papers : Nat → Int32} {k : Nat} {S P : Nat → Nat} (h : hp cnt sets papers k S P) {tk : Nat} (htk : tk < 256) : f_X11_mostOf cnt (nI tk) papers sets = some (encN (am tk (tel k S P) 8)) := by
  have hb : ∀ c, tel k S P c < 2 ^ 31 := fun c => by
    have := tel_le k S P c
    have := h.2.2.2
    omega
  have h1 : lp_X11_mostOf_5 cnt (nI tk) papers sets FU (-6 : Int32) (0 : Int32) = some (encN (am tk (tel k S P) 8)) := by
    refine pick_model (val := tel k S P) (lp_X11_mostOf_5 cnt (nI tk) papers sets) (fun n y1 => ?_) (fun n i hi => ?_) (fun n b i hb8 hi => ?_)
    · rw [lp_X11_mostOf_5, if_pos (by decide)]
    · rw [lp_X11_mostOf_5, if_neg (by rw [le8 (by omega)]; omega), isLeft_eq htk hi, ob_sb, nI_1]
      rcases bt_01 tk i with q | q
      · rw [q, if_neg (by decide), if_pos (by decide), if_pos rfl]
      · rw [q, if_pos (by decide), if_neg (by decide)]
    · rw [lp_X11_mostOf_5, if_neg (by rw [le8 (by omega)]; omega), isLeft_eq htk hi, ob_sb, nI_1, papersOf_eq h hi, papersOf_eq h hb8, ob_sb, ob_sb]
      rcases bt_01 tk i with q | q
      · rw [q, if_neg (by decide), if_neg (nI_nneg (by omega)), if_pos rfl]
        simp only [nI_leI (hb i) (hb b)]
      · rw [q, if_pos (by decide), if_neg (by decide)]
  unfold f_X11_mostOf
  rw [h1]
  rfl
theorem greedy_pick {cnt : Int32} {sets papers : Nat → Int32} {k : Nat} {S P : Nat → Nat} (h : hp cnt sets papers k S P) {wo : Nat → Int32} {w : Nat → Nat} (ht : wts wo w) (hw : ∀ n, n < 4 → w n ≤ 60) {tk : Nat} (htk : tk < 256) : f_X11_greedyOf cnt (nI tk) papers sets wo = some (encN (am tk (fun c => wor k S P w (tk ||| 2 ^ c)) 8)) := by
  have hb : ∀ x, wor k S P w x < 2 ^ 31 := fun x => by
    have := wor_le (S := S) hw h.2.2.2 x
    omega
  have h1 : lp_X11_greedyOf_5 cnt (nI tk) papers sets wo FU (-6 : Int32) (0 : Int32) = some (encN (am tk (fun c => wor k S P w (tk ||| 2 ^ c)) 8)) := by
    refine pick_model (val := fun c => wor k S P w (tk ||| 2 ^ c)) (lp_X11_greedyOf_5 cnt (nI tk) papers sets wo) (fun n y1 => ?_) (fun n i hi => ?_) (fun n b i hb8 hi => ?_)
    · rw [lp_X11_greedyOf_5, if_pos (by decide)]
    · rw [lp_X11_greedyOf_5, if_neg (by rw [le8 (by omega)]; omega), isLeft_eq htk hi, ob_sb, nI_1]
      rcases bt_01 tk i with q | q
      · rw [q, if_neg (by decide), if_pos (by decide), if_pos rfl]
      · rw [q, if_pos (by decide), if_neg (by decide)]
    · rw [lp_X11_greedyOf_5, if_neg (by rw [le8 (by omega)]; omega), isLeft_eq htk hi, ob_sb, nI_1, pb_or1 hi, pb_or1 hb8, mworthOf_eq h ht (or_pow_lt tk htk i hi), mworthOf_eq h ht (or_pow_lt tk htk b hb8), ob_sb, ob_sb]
      rcases bt_01 tk i with q | q
      · rw [q, if_neg (by decide), if_neg (nI_nneg (by omega)), if_pos rfl]
        simp only [nI_leI (hb _) (hb _)]
      · rw [q, if_pos (by decide), if_neg (by decide)]
  unfold f_X11_greedyOf
  rw [h1]
  rfl
