/-! committees: the class's row, the reference's rounds over all sets -/
def cq (Q : Nat → Bool) (n : Nat) : Nat := sm (fun y => if Q y = true then 1 else 0) n
theorem cq_s (Q : Nat → Bool) (n : Nat) : cq Q (n + 1) = cq Q n + if Q n = true then 1 else 0 := rfl
theorem cq_mono (Q : Nat → Bool) {m n : Nat} (h : m ≤ n) : cq Q m ≤ cq Q n := sm_mono _ h
theorem cq_lt {Q : Nat → Bool} {x y : Nat} (h : x < y) (hx : Q x = true) : cq Q x < cq Q y := by
  have h1 : cq Q (x + 1) = cq Q x + 1 := by rw [cq_s, if_pos hx]
  have h2 := cq_mono Q (m := x + 1) (n := y) h
  omega
/-- the row holds those x below n with Q, from the least on -/
def rowIs (row : Nat → Int32) (Q : Nat → Bool) (n : Nat) : Prop := ∀ x, x < n → Q x = true → row (cq Q x) = nI x
theorem down {n : Nat} {Pr : Nat → Prop} (h0 : Pr n) (hs : ∀ x, x < n → Pr (x + 1) → Pr x) : Pr 0 := by
  have : ∀ d x, x + d = n → Pr x := by
    intro d
    induction d with
    | zero =>
      intro x hx
      obtain rfl : x = n := by omega
      exact h0
    | succ d ih => intro x hx; exact hs x (by omega) (ih (x + 1) (by omega))
  exact this n 0 (by omega)
theorem le256 {a b : Nat} (ha : a ≤ 256) (hb : b ≤ 256) : nI a ≤ nI b ↔ a ≤ b := nI_leI (by omega) (by omega)
/-- a committee that is lawful -/
abbrev qs (s : Nat) (Lw : Nat → Bool) : Nat → Bool := fun x => decide (pc8 x = s) && Lw x
theorem qs_t {s : Nat} {Lw : Nat → Bool} {x : Nat} : qs s Lw x = true ↔ pc8 x = s ∧ Lw x = true := by simp [qs]
theorem cq_70 {s : Nat} (hs : s ≤ 8) (Lw : Nat → Bool) : cq (qs s Lw) 256 ≤ 70 := by
  have h1 : cq (qs s Lw) 256 ≤ cn s 256 := sm_le (fun j _ => by
    by_cases q : pc8 j = s
    · rw [if_pos q]; split <;> omega
    · rw [if_neg q, if_neg (fun z => q (qs_t.mp z).1)]; omega)
  have h2 := cn_70 s (by omega)
  omega
theorem gather_eq {vc : Int32} {sets fewer digits : Nat → Int32} {Lw : Nat → Bool} (hA : ∀ x, x < 256 → f_X4_allow (nI x) vc digits fewer sets = some (if Lw x = true then 1 else 0)) {s : Nat} (hs1 : 1 ≤ s) (hs : s ≤ 4) (c0 : Int32) (row : Nat → Int32) : ∃ r2, f_X0_gather (nI s) vc c0 digits fewer sets row = some (nI (cq (qs s Lw) 256), r2) ∧ rowIs r2 (qs s Lw) 256 := by
  have h70 := cq_70 (s := s) (by omega) Lw
  have h1 := up1 (k := 256) (fun n x => ∀ row : Nat → Int32, rowIs row (qs s Lw) x → ∃ r2, lp_X0_gather_7 (nI s) vc digits fewer sets n (nI x) (nI (cq (qs s Lw) x)) row = some (nI (cq (qs s Lw) 256), r2) ∧ rowIs r2 (qs s Lw) 256) (by omega) (by omega)
    (fun n row a => ⟨row, by rw [lp_X0_gather_7, if_pos (by decide)], a⟩)
    (fun n x hx ih row a => by
      have hp := pc8_le x
      rw [lp_X0_gather_7, if_neg (by rw [show (255 : Int32) = nI 255 from rfl, nI_ltI (by omega) (by omega)]; omega), bitCount_8 x hx, ob_sb, hA x hx, ob_sb, nI_1]
      have e1 : (nI (pc8 x) = nI s) ↔ pc8 x = s := nI_eq (by omega) (by omega)
      have skip : ¬ qs s Lw x = true → ∃ r2, lp_X0_gather_7 (nI s) vc digits fewer sets n (nI (x + 1)) (nI (cq (qs s Lw) x)) row = some (nI (cq (qs s Lw) 256), r2) ∧ rowIs r2 (qs s Lw) 256 := fun hq => by
        have := ih row (fun y hy hqy => by
          rcases Nat.lt_or_ge y x with g | g
          · exact a y g hqy
          · obtain rfl : y = x := by omega
            exact absurd hqy hq)
        rw [cq_s, if_neg hq, Nat.add_zero] at this
        exact this
      by_cases q : pc8 x = s
      · rw [if_pos (e1.mpr q)]
        by_cases q2 : Lw x = true
        · rw [if_pos q2, if_neg (by decide)]
          have hq : qs s Lw x = true := qs_t.mpr ⟨q, q2⟩
          have hlt := cq_lt (Q := qs s Lw) hx hq
          rw [if_neg (by rw [show (70 : Int32) = nI 70 from rfl, nI_leI (by omega) (by omega)]; omega), if_pos (ob_inN (by omega) (by decide)), nI_clamp (by omega), nI_1]
          have := ih (upd row (cq (qs s Lw) x) (nI x)) (fun y hy hqy => by
            rcases Nat.lt_or_ge y x with g | g
            · have := cq_lt (Q := qs s Lw) g hqy
              rw [pk_un (by omega), a y g hqy]
            · obtain rfl : y = x := by omega
              rw [pk_us])
          rw [cq_s, if_pos hq] at this
          exact this
        · rw [if_neg q2, if_pos rfl]
          exact skip (fun z => q2 (qs_t.mp z).2)
      · rw [if_neg (fun z => q (e1.mp z))]
        exact skip (fun z => q (qs_t.mp z).1))
  obtain ⟨r2, e1, e2⟩ := h1 row (fun y hy hqy => by
    obtain rfl : y = 0 := by omega
    have := (qs_t.mp hqy).1
    rw [show pc8 0 = 0 from by decide] at this
    omega)
  refine ⟨r2, ?_, e2⟩
  have c1 : cq (qs s Lw) 1 = 0 := by
    rw [cq_s, if_neg (fun z => by
      have := (qs_t.mp z).1
      rw [show pc8 0 = 0 from by decide] at this
      omega)]
    rfl
  rw [c1] at e1
  unfold f_X0_gather
  rw [show lp_X0_gather_7 (nI s) vc digits fewer sets FU (1 : Int32) (0 : Int32) row = some (nI (cq (qs s Lw) 256), r2) from e1]
  rfl
/-- the first one that is better than all ahead -/
def amq (Q : Nat → Bool) (lt : Nat → Nat → Bool) : Nat → Option Nat
  | 0 => none
  | n + 1 => match amq Q lt n with
    | none => if Q n = true then some n else none
    | some b => if Q n = true ∧ lt b n = true then some n else some b
theorem amq_s (Q : Nat → Bool) (lt : Nat → Nat → Bool) (n : Nat) : amq Q lt (n + 1) = match amq Q lt n with
    | none => if Q n = true then some n else none
    | some b => if Q n = true ∧ lt b n = true then some n else some b := rfl
theorem amq_no {Q : Nat → Bool} {lt : Nat → Nat → Bool} {n : Nat} (h : ¬ Q n = true) : amq Q lt (n + 1) = amq Q lt n := by
  rw [amq_s]
  cases amq Q lt n with
  | none => dsimp only; rw [if_neg h]
  | some b => dsimp only; rw [if_neg (fun z => h z.1)]
theorem amq_in {Q : Nat → Bool} {lt : Nat → Nat → Bool} : ∀ {n b : Nat}, amq Q lt n = some b → b < n ∧ Q b = true := by
  intro n
  induction n with
  | zero => intro b h; cases h
  | succ n ih =>
    intro b h
    rw [amq_s] at h
    cases e : amq Q lt n with
    | none =>
      rw [e] at h
      dsimp only at h
      split at h
      · cases h; exact ⟨by omega, by assumption⟩
      · cases h
    | some d =>
      rw [e] at h
      dsimp only at h
      obtain ⟨h1, h2⟩ := ih e
      split at h
      · rename_i q; cases h; exact ⟨by omega, q.1⟩
      · cases h; exact ⟨by omega, h2⟩
theorem isComm_eq {x s : Nat} (hx : x < 256) (hs : s ≤ 8) : f_X11_isCommittee (nI x) (nI s) = some (if pc8 x = s then 1 else 0) := by
  have hp := pc8_le x
  unfold f_X11_isCommittee
  rw [in_1 (by rw [nI_0', nI_leI (by omega) (by omega)]; omega) (by rw [show (255 : Int32) = nI 255 from rfl, nI_leI (by omega) (by omega)]; omega), ob_sb, if_neg (by decide), bits_8 x hx, ob_sb]
  by_cases q : pc8 x = s
  · rw [if_pos (by rw [q]), if_pos q]
  · rw [if_neg (by rw [nI_eq (by omega) (by omega)]; exact q), if_neg q]
/-- BEST -/
abbrev ltW (v : Nat → Nat) : Nat → Nat → Bool := fun b n => decide (v b < v n)
abbrev gtW (v : Nat → Nat) : Nat → Nat → Bool := fun b n => decide (v n < v b)
def enc0 : Option Nat → Int32
  | none => 0
  | some b => nI b
theorem mostW_eq {cnt : Int32} {sets papers : Nat → Int32} {k : Nat} {S P : Nat → Nat} (h : hp cnt sets papers k S P) {tg : Nat → Int32} {w : Nat → Nat} (ht : tgs tg w) (hw : ∀ n, n < 4 → w n ≤ 60) {Q : Nat → Bool} (hQ : cq Q 256 ≤ 70) {row : Nat → Int32} (hr : rowIs row Q 256) : f_X0_ofMostWorth cnt (nI (cq Q 256)) papers sets tg row = some (enc0 (amq Q (ltW (wor k S P w)) 256)) := by
  have hW : ∀ y, wor k S P w y < 2 ^ 31 := fun y => by
    have := wor_le (S := S) hw h.2.2.2 y
    omega
  have h1 := down (n := 256) (Pr := fun x => ∀ m, cq Q 256 - cq Q x < m → lp_X0_ofMostWorth_7 cnt (nI (cq Q 256)) papers sets tg row m (enc0 (amq Q (ltW (wor k S P w)) x)) (encV (wor k S P w) (amq Q (ltW (wor k S P w)) x)) (nI (cq Q x)) = some (enc0 (amq Q (ltW (wor k S P w)) 256)))
    (fun m hm => by
      obtain ⟨m, rfl⟩ : ∃ z, m = z + 1 := ⟨m - 1, by omega⟩
      rw [lp_X0_ofMostWorth_7, if_pos ((le256 (by omega) (by omega)).mpr (Nat.le_refl _))])
    (fun x hx ih m hm => by
      by_cases q : Q x = true
      · obtain ⟨m, rfl⟩ : ∃ z, m = z + 1 := ⟨m - 1, by omega⟩
        have hlt := cq_lt (Q := Q) hx q
        have hc : cq Q (x + 1) = cq Q x + 1 := by rw [cq_s, if_pos q]
        have ih' := ih m (by omega)
        rw [hc, amq_s] at ih'
        rw [lp_X0_ofMostWorth_7, if_neg (by rw [le256 (by omega) (by omega)]; omega), if_pos (ob_inN (by omega) (by decide)), nI_clamp (by omega), hr x hx q, worthOf_eq h ht hx, ob_sb, nI_1]
        cases e : amq Q (ltW (wor k S P w)) x with
        | none =>
          rw [e] at ih'
          dsimp only at ih'
          rw [if_pos q] at ih'
          rw [encV_n, if_neg (not_le_m1 (hW x)), if_pos (ob_inN (by omega) (by decide))]
          exact ih'
        | some b =>
          rw [e] at ih'
          dsimp only at ih'
          rw [encV_s]
          by_cases g : wor k S P w b < wor k S P w x
          · rw [if_pos ⟨q, by simp [g]⟩] at ih'
            rw [if_neg (by rw [nI_leI (hW _) (hW _)]; omega), if_pos (ob_inN (by omega) (by decide))]
            exact ih'
          · rw [if_neg (fun z => g (by simpa using z.2))] at ih'
            rw [if_pos (by rw [nI_leI (hW _) (hW _)]; omega)]
            exact ih'
      · have hc : cq Q (x + 1) = cq Q x := by rw [cq_s, if_neg q, Nat.add_zero]
        have ih' := ih m (by omega)
        rw [hc, amq_no q] at ih'
        exact ih')
  unfold f_X0_ofMostWorth
  exact bind_id (h1 FU (by unfold FU; omega))
theorem bestOf_eq {cnt : Int32} {sets papers : Nat → Int32} {k : Nat} {S P : Nat → Nat} (h : hp cnt sets papers k S P) {wo : Nat → Int32} {w : Nat → Nat} (ht : wts wo w) (hw : ∀ n, n < 4 → w n ≤ 60) {vm : Int32} {hs : Nat → Int32} {Lw : Nat → Bool} (hB : ∀ x, x < 256 → ∃ r, f_X11_barOf (nI x) vm hs = some r ∧ (Lw x = true → r < 0 ∧ ¬ 0 ≤ r) ∧ (¬ Lw x = true → 0 ≤ r ∧ ¬ r < 0)) {s : Nat} (hs4 : s ≤ 4) : f_X11_bestOf cnt (nI s) vm hs papers sets wo = some (enc0 (amq (qs s Lw) (ltW (wor k S P w)) 256)) := by
  have hW : ∀ y, wor k S P w y < 2 ^ 31 := fun y => by
    have := wor_le (S := S) hw h.2.2.2 y
    omega
  have h1 := up0 (k := 256) (fun n x => lp_X11_bestOf_6 cnt (nI s) vm hs papers sets wo n (enc0 (amq (qs s Lw) (ltW (wor k S P w)) x)) (encV (wor k S P w) (amq (qs s Lw) (ltW (wor k S P w)) x)) (nI x) = some (enc0 (amq (qs s Lw) (ltW (wor k S P w)) 256))) (by omega)
    (fun n => by rw [lp_X11_bestOf_6, if_pos (by decide)])
    (fun n x hx ih => by
      have hp := pc8_le x
      obtain ⟨r, b1, b2, b3⟩ := hB x hx
      rw [lp_X11_bestOf_6, if_neg (by rw [show (256 : Int32) = nI 256 from rfl, nI_leI (by omega) (by omega)]; omega), bits_8 x hx, ob_sb, mworthOf_eq h ht hx, ob_sb, b1, ob_sb, ob_sb, nI_1]
      by_cases q : pc8 x = s
      · rw [if_pos (by rw [q])]
        by_cases q2 : Lw x = true
        · have hq : qs s Lw x = true := qs_t.mpr ⟨q, q2⟩
          rw [amq_s] at ih
          rw [if_neg (b2 q2).2]
          cases e : amq (qs s Lw) (ltW (wor k S P w)) x with
          | none =>
            rw [e] at ih
            dsimp only at ih
            rw [if_pos hq] at ih
            rw [encV_n, if_neg (not_le_m1 (hW x))]
            exact ih
          | some b =>
            rw [e] at ih
            dsimp only at ih
            rw [encV_s]
            by_cases g : wor k S P w b < wor k S P w x
            · rw [if_pos ⟨hq, by simp [g]⟩] at ih
              rw [if_neg (by rw [nI_leI (hW _) (hW _)]; omega)]
              exact ih
            · rw [if_neg (fun z => g (by simpa using z.2))] at ih
              rw [if_pos (by rw [nI_leI (hW _) (hW _)]; omega)]
              exact ih
        · rw [amq_no (fun z => q2 (qs_t.mp z).2)] at ih
          rw [if_pos (b3 q2).1]
          split <;> exact ih
      · rw [amq_no (fun z => q (qs_t.mp z).1)] at ih
        rw [if_neg (by rw [nI_eq (by omega) (by omega)]; exact q)]
        exact ih)
  unfold f_X11_bestOf
  exact bind_id h1
/-- LEAST WRONGED -/
theorem leastC_eq {cnt : Int32} {sets papers : Nat → Int32} {k : Nat} {S P : Nat → Nat} (h : hp cnt sets papers k S P) {Q : Nat → Bool} (hQ : cq Q 256 ≤ 70) {row : Nat → Int32} (hr : rowIs row Q 256) : f_X0_leastWronged cnt (nI (cq Q 256)) papers sets row = some (encN (amq Q (gtW (wrg k S P)) 256)) := by
  have hW : ∀ y, wrg k S P y < 2 ^ 31 := fun y => by
    have := wrg_le k S P y
    have := h.2.2.2
    omega
  have h1 := down (n := 256) (Pr := fun x => ∀ m (y3 : Int32), cq Q 256 - cq Q x < m → (∀ b, amq Q (gtW (wrg k S P)) x = some b → y3 = nI (wrg k S P b)) → lp_X0_leastWronged_8 cnt (nI (cq Q 256)) papers sets row m (encN (amq Q (gtW (wrg k S P)) x)) y3 (nI (cq Q x)) = some (encN (amq Q (gtW (wrg k S P)) 256)))
    (fun m y3 hm _ => by
      obtain ⟨m, rfl⟩ : ∃ z, m = z + 1 := ⟨m - 1, by omega⟩
      rw [lp_X0_leastWronged_8, if_pos ((le256 (by omega) (by omega)).mpr (Nat.le_refl _))])
    (fun x hx ih m y3 hm hy => by
      by_cases q : Q x = true
      · obtain ⟨m, rfl⟩ : ∃ z, m = z + 1 := ⟨m - 1, by omega⟩
        have hlt := cq_lt (Q := Q) hx q
        have hc : cq Q (x + 1) = cq Q x + 1 := by rw [cq_s, if_pos q]
        rw [lp_X0_leastWronged_8, if_neg (by rw [le256 (by omega) (by omega)]; omega), if_pos (ob_inN (by omega) (by decide)), nI_clamp (by omega), hr x hx q, wronged_eq h hx, ob_sb, nI_1, ← hc]
        have new : amq Q (gtW (wrg k S P)) (x + 1) = some x → (if ob_in (nI (cq Q x)) 70 = true then lp_X0_leastWronged_8 cnt (nI (cq Q 256)) papers sets row m (nI x) (nI (wrg k S P x)) (nI (cq Q (x + 1))) else none) = some (encN (amq Q (gtW (wrg k S P)) 256)) := fun hn => by
          rw [if_pos (ob_inN (by omega) (by decide))]
          have := ih m (nI (wrg k S P x)) (by omega) (fun b hb => by rw [hn] at hb; cases hb; rfl)
          rw [hn] at this
          exact this
        cases e : amq Q (gtW (wrg k S P)) x with
        | none =>
          rw [encN_n, if_pos rfl]
          exact new (by rw [amq_s, e]; dsimp only; rw [if_pos q])
        | some b =>
          have hb := amq_in e
          have hyb := hy b e
          subst hyb
          rw [encN_s, if_neg (nI_ne6 (by omega))]
          by_cases g : wrg k S P x < wrg k S P b
          · rw [if_neg (by rw [nI_leI (hW _) (hW _)]; omega)]
            exact new (by rw [amq_s, e]; dsimp only; rw [if_pos ⟨q, by simp [g]⟩])
          · rw [if_pos (by rw [nI_leI (hW _) (hW _)]; omega)]
            have hn : amq Q (gtW (wrg k S P)) (x + 1) = some b := by rw [amq_s, e]; dsimp only; rw [if_neg (fun z => g (by simpa using z.2))]
            have := ih m (nI (wrg k S P b)) (by omega) (fun b' hb' => by rw [hn] at hb'; cases hb'; rfl)
            rw [hn] at this
            exact this
      · have hc : cq Q (x + 1) = cq Q x := by rw [cq_s, if_neg q, Nat.add_zero]
        have ih' := ih m y3 (by omega) (fun b hb => hy b (by rw [amq_no q] at hb; exact hb))
        rw [hc, amq_no q] at ih'
        exact ih')
  unfold f_X0_leastWronged
  exact bind_id (h1 FU 0 (by unfold FU; omega) (fun b hb => by cases hb))
theorem leastM_eq {cnt : Int32} {sets papers : Nat → Int32} {k : Nat} {S P : Nat → Nat} (h : hp cnt sets papers k S P) {vm : Int32} {hs : Nat → Int32} {Lw : Nat → Bool} (hB : ∀ x, x < 256 → ∃ r, f_X11_barOf (nI x) vm hs = some r ∧ (Lw x = true → r < 0 ∧ ¬ 0 ≤ r) ∧ (¬ Lw x = true → 0 ≤ r ∧ ¬ r < 0)) {s : Nat} (hs4 : s ≤ 4) (y1 : Int32) : lp_X11_least_17 y1 cnt (nI s) vm hs papers sets FU (-6 : Int32) (0 : Int32) = some (encN (amq (qs s Lw) (gtW (wrg k S P)) 256)) := by
  have hW : ∀ y, wrg k S P y < 2 ^ 31 := fun y => by
    have := wrg_le k S P y
    have := h.2.2.2
    omega
  have h1 := up0 (k := 256) (fun n x => lp_X11_least_17 y1 cnt (nI s) vm hs papers sets n (encN (amq (qs s Lw) (gtW (wrg k S P)) x)) (nI x) = some (encN (amq (qs s Lw) (gtW (wrg k S P)) 256))) (by omega)
    (fun n => by rw [lp_X11_least_17, if_pos (by decide)])
    (fun n x hx ih => by
      obtain ⟨r, b1, b2, b3⟩ := hB x hx
      rw [lp_X11_least_17, if_neg (by rw [show (256 : Int32) = nI 256 from rfl, nI_leI (by omega) (by omega)]; omega), isComm_eq hx (by omega), ob_sb, b1, ob_sb, mwronged_eq h hx, ob_sb, nI_1]
      by_cases q : pc8 x = s
      · rw [if_pos q, if_neg (by decide)]
        by_cases q2 : Lw x = true
        · have hq : qs s Lw x = true := qs_t.mpr ⟨q, q2⟩
          rw [amq_s] at ih
          rw [if_neg (b2 q2).2]
          cases e : amq (qs s Lw) (gtW (wrg k S P)) x with
          | none =>
            rw [e] at ih
            dsimp only at ih
            rw [if_pos hq] at ih
            rw [encN_n, if_pos nI_6neg]
            exact ih
          | some b =>
            have hb := amq_in e
            rw [e] at ih
            dsimp only at ih
            rw [encN_s, if_neg (nI_nneg (by omega)), mwronged_eq h (show b < 256 by omega), ob_sb]
            by_cases g : wrg k S P x < wrg k S P b
            · rw [if_pos ⟨hq, by simp [g]⟩] at ih
              rw [if_neg (by rw [nI_leI (hW _) (hW _)]; omega)]
              exact ih
            · rw [if_neg (fun z => g (by simpa using z.2))] at ih
              rw [if_pos (by rw [nI_leI (hW _) (hW _)]; omega)]
              exact ih
        · rw [amq_no (fun z => q2 (qs_t.mp z).2)] at ih
          rw [if_pos (b3 q2).1]
          exact ih
      · rw [amq_no (fun z => q (qs_t.mp z).1)] at ih
        rw [if_neg q, if_pos rfl]
        exact ih)
  exact h1
