/-! the calls on heaps, seats, worths, signs: both sides answer alike, and stay alike -/
theorem rngN {x : Int32} {lo hi : Nat} (hhi : hi < 2 ^ 31) (h : nI lo ≤ x ∧ x ≤ nI hi) (hlo : lo ≤ hi) : ∃ m, lo ≤ m ∧ m ≤ hi ∧ x = nI m := by
  have h1 := h.1
  have h2 := h.2
  rw [fa_le, nI_toInt (by omega)] at h1
  rw [fa_le, nI_toInt hhi] at h2
  have h0 : ¬ x < 0 := by
    rw [fa_lt]
    have : (0 : Int32).toInt = 0 := by decide
    omega
  obtain ⟨m, hm, rfl⟩ := nI_of h0
  rw [nI_toInt hm] at h1 h2
  exact ⟨m, by omega, by omega, rfl⟩
theorem isSet_in (x : Int32) : f_X10_isSet x = f_X11_in x (1 : Int32) (255 : Int32) := rfl
theorem isPap_in (x : Int32) : f_X10_isPapers x = f_X11_in x (1 : Int32) (100 : Int32) := rfl
theorem isWay_in (x : Int32) : f_X10_isWay x = f_X11_in x (0 : Int32) (5 : Int32) := rfl
theorem isLaw_in (x : Int32) : f_X10_isLaw x = f_X11_in x (0 : Int32) (2 : Int32) := rfl
/-- heaps alike -/
def RH (hc : Int32) (hs hq : Nat → Int32) (mc : Int32) (ms mq : Nat → Int32) : Prop := ∃ k S P, hp hc hs hq k S P ∧ hp mc ms mq k S P ∧ k ≤ 6 ∧ ∀ j, j < k → 1 ≤ P j ∧ P j ≤ 100
theorem sm_100 {P : Nat → Nat} : ∀ {k : Nat}, (∀ j, j < k → P j ≤ 100) → sm P k ≤ 100 * k
  | 0, _ => Nat.le_refl 0
  | k + 1, h => by
    have h1 := sm_100 (k := k) (fun j hj => h j (by omega))
    have h2 := h k (by omega)
    rw [sm_s]
    omega
theorem hp_of {k : Nat} {S P : Nat → Nat} {sets papers : Nat → Int32} (hk : k ≤ 6) (hP : ∀ j, j < k → P j ≤ 100) (hh : ∀ j, j < k → sets j = nI (S j) ∧ S j < 256 ∧ papers j = nI (P j)) : hp (nI k) sets papers k S P := ⟨rfl, by omega, hh, by have := sm_100 hP; omega⟩
theorem op_heap {hc : Int32} {hs hq : Nat → Int32} {mc : Int32} {ms mq : Nat → Int32} (h : RH hc hs hq mc ms mq) (x1 x2 : Int32) : ∃ q, f_X10_heap x1 x2 hc hq hs = some q ∧ ∃ r, f_X11_heap x1 x2 mc mq ms = some r ∧ q.1 = r.1 ∧ RH q.2.1 q.2.2.2 q.2.2.1 r.2.1 r.2.2.2 r.2.2.1 := by
  obtain ⟨k, S, P, h1, h2, hk, hP⟩ := id h
  obtain ⟨rfl, -, hh, -⟩ := h1
  obtain ⟨rfl, -, hh2, -⟩ := h2
  have n10 : ¬ (1 : Int32) = 0 := by decide
  rcases in_cases x1 1 255 with ⟨a1, a2⟩ | ⟨a1, a2⟩
  · rcases in_cases x2 1 100 with ⟨b1, b2⟩ | ⟨b1, b2⟩
    · obtain ⟨m1, c1, c2, rfl⟩ := rngN (lo := 1) (hi := 255) (by decide) a1 (by decide)
      obtain ⟨m2, d1, d2, rfl⟩ := rngN (lo := 1) (hi := 100) (by decide) b1 (by decide)
      by_cases q : k = 6
      · subst q
        refine ⟨(-4, nI 6, hq, hs), ?_, (-4, nI 6, mq, ms), ?_, rfl, h⟩
        · unfold f_X10_heap
          rw [isSet_in, isPap_in, a2, ob_sb, if_neg n10, b2, ob_sb, if_neg n10, if_neg (by decide)]
        · unfold f_X11_heap
          rw [a2, ob_sb, if_neg n10, b2, ob_sb, if_neg n10, if_pos (by decide)]
      · have e1 : f_X3_append (nI m1) (nI m2) (nI k) hq hs = some (nI (k + 1), upd hq k (nI m2), upd hs k (nI m1)) := by
          unfold f_X3_append
          rw [if_neg (nI_nneg (by omega)), if_neg (by rw [show (6 : Int32) = nI 6 from rfl, nI_ltI (by omega) (by omega)]; omega)]
          simp (disch := omega) only [ob_inN, nI_clamp, ob_sb, eq_self, if_true, if_false, nI_1, nI_add, pk_mul]
        refine ⟨(nI (k + 1) - 1, nI (k + 1), upd hq k (nI m2), upd hs k (nI m1)), ?_, (nI (k + 1) - 1, nI (k + 1), upd mq k (nI m2), upd ms k (nI m1)), ?_, rfl, ?_⟩
        · unfold f_X10_heap
          rw [isSet_in, isPap_in, a2, ob_sb, if_neg n10, b2, ob_sb, if_neg n10, if_pos (by rw [show (6 : Int32) = nI 6 from rfl, nI_ltI (by omega) (by omega)]; omega), e1, ob_sb]
        · unfold f_X11_heap
          rw [a2, ob_sb, if_neg n10, b2, ob_sb, if_neg n10, if_neg (by rw [show (6 : Int32) = nI 6 from rfl, nI_eq (by omega) (by omega)]; exact q)]
          simp (disch := omega) only [ob_inN, nI_clamp, ob_sb, eq_self, if_true, if_false, nI_1, nI_add, pk_mul]
        · have hP2 : ∀ j, j < k + 1 → 1 ≤ (if j = k then m2 else P j) ∧ (if j = k then m2 else P j) ≤ 100 := fun j hj => by
            split
            · omega
            · exact hP j (by omega)
          refine ⟨k + 1, fun j => if j = k then m1 else S j, fun j => if j = k then m2 else P j, hp_of (by omega) (fun j hj => (hP2 j hj).2) (fun j hj => ?_), hp_of (by omega) (fun j hj => (hP2 j hj).2) (fun j hj => ?_), by omega, hP2⟩
          · dsimp only
            by_cases g : j = k
            · subst g
              rw [pk_us, pk_us, if_pos rfl, if_pos rfl]
              exact ⟨rfl, by omega, rfl⟩
            · rw [pk_un g, pk_un g, if_neg g, if_neg g]
              exact hh j (by omega)
          · dsimp only
            by_cases g : j = k
            · subst g
              rw [pk_us, pk_us, if_pos rfl, if_pos rfl]
              exact ⟨rfl, by omega, rfl⟩
            · rw [pk_un g, pk_un g, if_neg g, if_neg g]
              exact hh2 j (by omega)
    · refine ⟨(-2, nI k, hq, hs), ?_, (-2, nI k, mq, ms), ?_, rfl, h⟩
      · unfold f_X10_heap
        rw [isSet_in, isPap_in, a2, ob_sb, if_neg n10, b2, ob_sb, if_pos rfl]
      · unfold f_X11_heap
        rw [a2, ob_sb, if_neg n10, b2, ob_sb, if_pos rfl]
  · refine ⟨(-2, nI k, hq, hs), ?_, (-2, nI k, mq, ms), ?_, rfl, h⟩
    · unfold f_X10_heap
      rw [isSet_in, a2, ob_sb, if_pos rfl]
    · unfold f_X11_heap
      rw [a2, ob_sb, if_pos rfl]
theorem op_drop {hc : Int32} {hs hq : Nat → Int32} {mc : Int32} {ms mq : Nat → Int32} (h : RH hc hs hq mc ms mq) : ∃ q, f_X10_drop hc = some q ∧ ∃ r, f_X11_drop mc = some r ∧ q.1 = r.1 ∧ RH q.2 hs hq r.2 ms mq := by
  obtain ⟨k, S, P, h1, h2, hk, hP⟩ := id h
  obtain ⟨rfl, -, hh, -⟩ := h1
  obtain ⟨rfl, -, hh2, -⟩ := h2
  unfold f_X10_drop f_X11_drop
  rcases Nat.eq_zero_or_pos k with q | q
  · subst q
    exact ⟨(-5, nI 0), by rw [if_neg (by decide)], (-5, nI 0), by rw [if_pos (by decide)], rfl, h⟩
  · obtain ⟨n, rfl⟩ : ∃ n, k = n + 1 := ⟨k - 1, by omega⟩
    refine ⟨(nI n, nI n), by rw [if_pos (by rw [nI_0', nI_ltI (by omega) (by omega)]; omega), nI_pred], (nI n, nI n), by rw [if_neg (nI_ne0 (by omega) (by omega)), nI_pred], rfl, n, S, P, hp_of (by omega) (fun j hj => (hP j (by omega)).2) (fun j hj => hh j (by omega)), hp_of (by omega) (fun j hj => (hP j (by omega)).2) (fun j hj => hh2 j (by omega)), by omega, fun j hj => hP j (by omega)⟩
/-- is there such a heap: both sides say the same -/
theorem isHeap_cases {k : Nat} (hk : k ≤ 6) (x : Int32) : (∃ j, j < k ∧ x = nI j ∧ f_X10_isHeap x (nI k) = some 1 ∧ f_X11_isHeap x (nI k) = some 1) ∨ (f_X10_isHeap x (nI k) = some 0 ∧ f_X11_isHeap x (nI k) = some 0) := by
  by_cases q : x < 0
  · right
    refine ⟨by unfold f_X10_isHeap; rw [if_pos q], ?_⟩
    unfold f_X11_isHeap
    rw [in_0 (Or.inl q)]
    rfl
  · obtain ⟨j, hj, rfl⟩ := nI_of q
    rcases Nat.lt_or_ge j k with g | g
    · left
      refine ⟨j, g, rfl, ?_, ?_⟩
      · unfold f_X10_isHeap
        rw [if_neg q, if_neg (by rw [nI_leI (by omega) (by omega)]; omega), if_neg (by rw [show (6 : Int32) = nI 6 from rfl, nI_leI (by omega) (by omega)]; omega)]
      · unfold f_X11_isHeap
        rw [show (1 : Int32) = nI 1 from rfl, pk_sub (by omega), in_1 (nI_pos' hj) (by rw [nI_leI (by omega) (by omega)]; omega)]
        rfl
    · right
      refine ⟨?_, ?_⟩
      · unfold f_X10_isHeap
        rw [if_neg q, if_pos (by rw [nI_leI (by omega) (by omega)]; omega)]
      · unfold f_X11_isHeap
        rw [in_0 ?_]
        · rfl
        · right
          rcases Nat.eq_zero_or_pos k with k0 | k0
          · subst k0
            rw [fa_lt, nI_toInt hj]
            have : (nI 0 - (1 : Int32)).toInt = -1 := by decide
            omega
          · rw [show (1 : Int32) = nI 1 from rfl, pk_sub (by omega), nI_ltI (by omega) (by omega)]
            omega
theorem op_change {hc : Int32} {hs hq : Nat → Int32} {mc : Int32} {ms mq : Nat → Int32} (h : RH hc hs hq mc ms mq) (x1 x2 x3 : Int32) : ∃ q, f_X10_change x1 x2 x3 hc hq hs = some q ∧ ∃ r, f_X11_change x1 x2 x3 mc mq ms = some r ∧ q.1 = r.1 ∧ RH hc q.2.2 q.2.1 mc r.2.2 r.2.1 := by
  obtain ⟨k, S, P, h1, h2, hk, hP⟩ := id h
  obtain ⟨rfl, -, hh, -⟩ := h1
  obtain ⟨rfl, -, hh2, -⟩ := h2
  have n10 : ¬ (1 : Int32) = 0 := by decide
  rcases isHeap_cases hk x1 with ⟨j, hj, rfl, i1, i2⟩ | ⟨i1, i2⟩
  · have hin : ob_in (nI j) 7 = true := ob_inN (by omega) (by decide)
    have hcl : (nI j).toNatClampNeg = j := nI_clamp (by omega)
    by_cases e0 : x2 = 0
    · subst e0
      have e01 : ¬ (0 : Int32) = 1 := by decide
      have en := in_1 (show (0 : Int32) ≤ 0 by decide) (show (0 : Int32) ≤ 1 by decide)
      rcases in_cases x3 1 255 with ⟨a1, a2⟩ | ⟨a1, a2⟩
      · obtain ⟨m, c1, c2, rfl⟩ := rngN (lo := 1) (hi := 255) (by decide) a1 (by decide)
        refine ⟨(hs j, hq, upd hs j (nI m)), ?_, (ms j, mq, upd ms j (nI m)), ?_, ?_, ?_⟩
        · unfold f_X10_change
          rw [i1, ob_sb, if_neg n10, if_pos rfl, isSet_in, a2, ob_sb, if_neg n10, if_pos hin, if_pos hin, hcl]
        · unfold f_X11_change
          rw [i2, ob_sb, if_neg n10, en, ob_sb, if_neg n10, if_pos rfl, a2, ob_sb, if_neg n10, if_pos rfl, if_pos hin, if_pos rfl, if_pos hin, hcl]
        · dsimp only
          rw [(hh j hj).1, (hh2 j hj).1]
        · refine ⟨k, fun i => if i = j then m else S i, P, hp_of hk (fun i hi => (hP i hi).2) (fun i hi => ?_), hp_of hk (fun i hi => (hP i hi).2) (fun i hi => ?_), hk, hP⟩
          · dsimp only
            by_cases g : i = j
            · subst g
              rw [pk_us, if_pos rfl]
              exact ⟨rfl, by omega, (hh i hi).2.2⟩
            · rw [pk_un g, if_neg g]
              exact hh i hi
          · dsimp only
            by_cases g : i = j
            · subst g
              rw [pk_us, if_pos rfl]
              exact ⟨rfl, by omega, (hh2 i hi).2.2⟩
            · rw [pk_un g, if_neg g]
              exact hh2 i hi
      · refine ⟨(-2, hq, hs), ?_, (-2, mq, ms), ?_, rfl, h⟩
        · unfold f_X10_change
          rw [i1, ob_sb, if_neg n10, if_pos rfl, isSet_in, a2, ob_sb, if_pos rfl, if_neg e01]
        · unfold f_X11_change
          rw [i2, ob_sb, if_neg n10, en, ob_sb, if_neg n10, if_pos rfl, a2, ob_sb, if_pos rfl]
    · by_cases e1 : x2 = 1
      · subst e1
        have en := in_1 (show (0 : Int32) ≤ 1 by decide) (show (1 : Int32) ≤ 1 by decide)
        rcases in_cases x3 1 100 with ⟨a1, a2⟩ | ⟨a1, a2⟩
        · obtain ⟨m, c1, c2, rfl⟩ := rngN (lo := 1) (hi := 100) (by decide) a1 (by decide)
          refine ⟨(hq j, upd hq j (nI m), hs), ?_, (mq j, upd mq j (nI m), ms), ?_, ?_, ?_⟩
          · unfold f_X10_change
            rw [i1, ob_sb, if_neg n10, if_neg n10, if_pos rfl, isPap_in, a2, ob_sb, if_neg n10, if_pos hin, if_pos hin, hcl]
          · unfold f_X11_change
            rw [i2, ob_sb, if_neg n10, en, ob_sb, if_neg n10, if_neg n10, a2, ob_sb, if_neg n10, if_neg n10, if_pos hin, if_neg n10, if_pos hin, hcl]
          · dsimp only
            rw [(hh j hj).2.2, (hh2 j hj).2.2]
          · have hP2 : ∀ i, i < k → (if i = j then m else P i) ≤ 100 := fun i hi => by
              split
              · omega
              · exact (hP i hi).2
            refine ⟨k, S, fun i => if i = j then m else P i, hp_of hk hP2 (fun i hi => ?_), hp_of hk hP2 (fun i hi => ?_), hk, fun i hi => ⟨?_, hP2 i hi⟩⟩
            · dsimp only
              by_cases g : i = j
              · subst g
                rw [pk_us, if_pos rfl]
                exact ⟨(hh i hi).1, (hh i hi).2.1, rfl⟩
              · rw [pk_un g, if_neg g]
                exact hh i hi
            · dsimp only
              by_cases g : i = j
              · subst g
                rw [pk_us, if_pos rfl]
                exact ⟨(hh2 i hi).1, (hh2 i hi).2.1, rfl⟩
              · rw [pk_un g, if_neg g]
                exact hh2 i hi
            · dsimp only
              split
              · omega
              · exact (hP i hi).1
        · refine ⟨(-2, hq, hs), ?_, (-2, mq, ms), ?_, rfl, h⟩
          · unfold f_X10_change
            rw [i1, ob_sb, if_neg n10, if_neg n10, if_pos rfl, isPap_in, a2, ob_sb, if_pos rfl]
          · unfold f_X11_change
            rw [i2, ob_sb, if_neg n10, en, ob_sb, if_neg n10, if_neg n10, a2, ob_sb, if_pos rfl]
      · have hi : f_X11_in x2 (0 : Int32) (1 : Int32) = some 0 := by
          rcases in_cases x2 0 1 with ⟨a1, -⟩ | ⟨-, a2⟩
          · obtain ⟨m, c1, c2, rfl⟩ := rngN (lo := 0) (hi := 1) (by decide) a1 (by decide)
            exfalso
            rcases (show m = 0 ∨ m = 1 by omega) with rfl | rfl
            · exact e0 rfl
            · exact e1 rfl
          · exact a2
        refine ⟨(-2, hq, hs), ?_, (-2, mq, ms), ?_, rfl, h⟩
        · unfold f_X10_change
          rw [i1, ob_sb, if_neg n10, if_neg e0, if_neg e1]
        · unfold f_X11_change
          rw [i2, ob_sb, if_neg n10, hi, ob_sb, if_pos rfl]
  · refine ⟨(-1, hq, hs), ?_, (-1, mq, ms), ?_, rfl, h⟩
    · unfold f_X10_change
      rw [i1, ob_sb, if_pos rfl]
    · unfold f_X11_change
      rw [i2, ob_sb, if_pos rfl]
/-- seats alike -/
def RS (sc ms : Int32) : Prop := ∃ s, sc = nI s ∧ ms = nI s ∧ 1 ≤ s ∧ s ≤ 4
theorem op_seats {sc ms : Int32} (h : RS sc ms) (x1 : Int32) : ∃ q, f_X10_seats x1 sc = some q ∧ ∃ r, f_X11_seats x1 ms = some r ∧ q.1 = r.1 ∧ RS q.2 r.2 := by
  obtain ⟨s, rfl, rfl, h1, h2⟩ := id h
  unfold f_X10_seats f_X11_seats
  rcases in_cases x1 1 4 with ⟨a1, a2⟩ | ⟨a1, a2⟩
  · obtain ⟨m, c1, c2, rfl⟩ := rngN (lo := 1) (hi := 4) (by decide) a1 (by decide)
    exact ⟨_, by rw [if_neg (by rw [show (1 : Int32) = nI 1 from rfl, nI_ltI (by omega) (by omega)]; omega), if_pos a1.2], _, by rw [a2, ob_sb, if_neg (by decide)], by rfl, m, by rfl, by rfl, c1, c2⟩
  · refine ⟨(-2, nI s), ?_, (-2, nI s), by rw [a2, ob_sb, if_pos rfl], rfl, h⟩
    by_cases q : x1 < 1
    · rw [if_pos q]
    · rw [if_neg q, if_neg (fun z => a1 ⟨fa_of_nlt q, z⟩)]
/-- texts alike -/
def RT (tl : Int32) (ts : Nat → Int32) (ml : Int32) (ms : Nat → Int32) : Prop := ∃ t sg, txt tl ts t sg ∧ txt ml ms t sg
theorem op_say {tl : Int32} {ts : Nat → Int32} {ml : Int32} {ms : Nat → Int32} (h : RT tl ts ml ms) (x1 : Int32) : ∃ q, f_X10_say x1 tl ts = some q ∧ ∃ r, f_X11_say x1 ml ms = some r ∧ q.1 = r.1 ∧ RT q.2.1 q.2.2 r.2.1 r.2.2 := by
  obtain ⟨t, sg, h1, h2⟩ := id h
  obtain ⟨rfl, ht, hh⟩ := h1
  obtain ⟨rfl, -, hh2⟩ := h2
  unfold f_X10_say f_X11_say
  rcases in_cases x1 33 126 with ⟨a1, a2⟩ | ⟨a1, a2⟩
  · obtain ⟨m, c1, c2, rfl⟩ := rngN (lo := 33) (hi := 126) (by decide) a1 (by decide)
    have e0 : ¬ nI m < (33 : Int32) := by rw [show (33 : Int32) = nI 33 from rfl, nI_ltI (by omega) (by omega)]; omega
    by_cases q : t = 40
    · subst q
      exact ⟨(-4, nI 40, ts), by rw [if_neg e0, if_pos a1.2, if_neg (by decide)], (-4, nI 40, ms), by rw [a2, ob_sb, if_neg (by decide), if_pos (by decide)], rfl, h⟩
    · have e1 : f_X7_append (nI m) (nI t) ts = some (nI (t + 1), upd ts t (nI m)) := by
        unfold f_X7_append
        rw [if_neg (nI_nneg (by omega)), if_neg (by rw [show (40 : Int32) = nI 40 from rfl, nI_leI (by omega) (by omega)]; omega)]
        simp (disch := omega) only [ob_inN, nI_clamp, ob_sb, eq_self, if_true, if_false, nI_1, nI_add, pk_mul]
      refine ⟨(nI (t + 1), nI (t + 1), upd ts t (nI m)), by rw [if_neg e0, if_pos a1.2, if_pos (by rw [show (40 : Int32) = nI 40 from rfl, nI_ltI (by omega) (by omega)]; omega), e1, ob_sb], (nI (t + 1), nI (t + 1), upd ms t (nI m)), ?_, rfl, t + 1, fun j => if j = t then m else sg j, ⟨rfl, by omega, fun j hj => ?_⟩, ⟨rfl, by omega, fun j hj => ?_⟩⟩
      · rw [a2, ob_sb, if_neg (by decide), if_neg (by rw [show (40 : Int32) = nI 40 from rfl, nI_eq (by omega) (by omega)]; exact q)]
        simp (disch := omega) only [ob_inN, nI_clamp, ob_sb, eq_self, if_true, if_false, nI_1, nI_add, pk_mul]
      · dsimp only
        by_cases g : j = t
        · subst g
          rw [pk_us, if_pos rfl]
          exact ⟨rfl, by omega⟩
        · rw [pk_un g, if_neg g]
          exact hh j (by omega)
      · dsimp only
        by_cases g : j = t
        · subst g
          rw [pk_us, if_pos rfl]
          exact ⟨rfl, by omega⟩
        · rw [pk_un g, if_neg g]
          exact hh2 j (by omega)
  · refine ⟨(-2, nI t, ts), ?_, (-2, nI t, ms), by rw [a2, ob_sb, if_pos rfl], rfl, h⟩
    by_cases q : x1 < 33
    · rw [if_pos q]
    · rw [if_neg q, if_neg (fun z => a1 ⟨fa_of_nlt q, z⟩)]
theorem op_wipe {tl : Int32} {ts : Nat → Int32} {ml : Int32} {ms : Nat → Int32} (h : RT tl ts ml ms) : ∃ q, f_X10_wipe tl = some q ∧ ∃ r, f_X11_wipe ml = some r ∧ q.1 = r.1 ∧ RT q.2 ts r.2 ms := by
  obtain ⟨t, sg, h1, h2⟩ := id h
  obtain ⟨rfl, ht, hh⟩ := h1
  obtain ⟨rfl, -, hh2⟩ := h2
  exact ⟨_, rfl, _, rfl, rfl, 0, sg, ⟨rfl, by omega, fun j hj => by omega⟩, ⟨rfl, by omega, fun j hj => by omega⟩⟩
theorem op_fault {tl : Int32} {ts : Nat → Int32} {ml : Int32} {ms : Nat → Int32} (h : RT tl ts ml ms) : ∃ q, f_X10_fault tl ts = some q ∧ f_X11_fault ml ms = some q := by
  obtain ⟨t, sg, h1, h2⟩ := id h
  obtain ⟨r, e1, e2, -⟩ := fault_eq h1 h2
  exact ⟨r, bind_id e1, bind_id e2⟩
/-- halls alike -/
def RLn (lc : Int32) (ls lf ld : Nat → Int32) (hm : Int32) (hs : Nat → Int32) : Prop := ∃ t sg, txt hm hs t sg ∧ (t = 0 ∨ rs sg t = some 10) ∧ lns lc ls lf ld (pN sg t) (pLS sg t) (pLF sg t) (pLD sg t)
theorem op_hall {tl : Int32} {ts : Nat → Int32} {ml : Int32} {ms : Nat → Int32} (h : RT tl ts ml ms) {lc : Int32} {ls lf ld : Nat → Int32} {hm : Int32} {hs : Nat → Int32} (hl : RLn lc ls lf ld hm hs) : ∃ q, f_X10_hall lc tl ld lf ls ts = some q ∧ ∃ r, f_X11_hall ml hm hs ms = some r ∧ q.1 = r.1 ∧ RT q.2.2.1 ts r.2.1 ms ∧ RLn q.2.1 q.2.2.2.2.2 q.2.2.2.2.1 q.2.2.2.1 r.2.2.1 r.2.2.2 := by
  obtain ⟨t, sg, h1, h2⟩ := id h
  obtain ⟨r, e1, e2, e3⟩ := fault_eq h1 h2
  unfold f_X10_hall f_X11_hall
  rcases e3 with ⟨rfl, hr⟩ | ⟨m, rfl, hm40, hr⟩
  · obtain ⟨vc, d2, f2, s2, c1, c2⟩ := read_eq h1 hr lc ld lf ls
    obtain ⟨rfl, ht, hh⟩ := id h2
    have hcp := up0 (k := t) (fun n i => ∀ hs : Nat → Int32, (∀ j, j < i → hs j = ms j) → ∃ h2, lp_X11_hall_20 (nI t) ms n (nI i) hs = some h2 ∧ ∀ j, j < t → h2 j = ms j) (by omega)
      (fun n hs a => ⟨hs, by rw [lp_X11_hall_20, if_pos ((le40 ht ht).mpr (Nat.le_refl _))], a⟩)
      (fun n i hi ih hs a => by
        rw [lp_X11_hall_20, if_neg (by rw [le40 (by omega) (by omega)]; omega)]
        simp (disch := omega) only [ob_inN, nI_clamp, ob_sb, eq_self, if_true, if_false, nI_1, nI_add, pk_mul]
        refine ih _ (fun j hj => ?_)
        by_cases g : j = i
        · subst g
          rw [pk_us]
        · rw [pk_un g]
          exact a j (by omega))
    obtain ⟨h3, g1, g2⟩ := hcp hs (fun j hj => by omega)
    refine ⟨(1, vc, 0, d2, f2, s2), by rw [e1, ob_sb, if_pos rfl, c1, ob_sb], (1, 0, nI t, h3), ?_, rfl, ⟨0, sg, ⟨rfl, by omega, fun j hj => by omega⟩, ⟨rfl, by omega, fun j hj => by omega⟩⟩, t, sg, ⟨rfl, ht, fun j hj => by dsimp only; rw [g2 j hj]; exact hh j hj⟩, Or.inr hr, c2⟩
    rw [e2, ob_sb, if_pos nI_6neg, show lp_X11_hall_20 (nI t) ms FU (0 : Int32) hs = some h3 from g1]
    rfl
  · exact ⟨(-5, lc, tl, ld, lf, ls), by rw [e1, ob_sb, if_neg (nI_ne6 (by omega))], (-5, ml, hm, hs), by rw [e2, ob_sb, if_neg (nI_nneg (by omega))], rfl, h, hl⟩
theorem pN_pos {sg : Nat → Nat} {t : Nat} (hs : ∀ j, j < t → sg j < 128) (hr : rs sg t = some 10) : 0 < t ∧ 1 ≤ pN sg t := by
  have h0 : 0 < t := by
    rcases Nat.eq_zero_or_pos t with z | z
    · subst z; cases hr
    · exact z
  refine ⟨h0, ?_⟩
  obtain ⟨n, rfl⟩ : ∃ n, t = n + 1 := ⟨t - 1, by omega⟩
  rw [rs_s] at hr
  cases e : rs sg n with
  | none => rw [e] at hr; cases hr
  | some d =>
    rw [e, ob_sb] at hr
    rcases stp_kind (rs_lt hs n (by omega) d e) hr with ⟨k1, k2, k3⟩ | ⟨k1, k2, k3, k4⟩ | ⟨k1, k2, k3, k4, k5⟩ | ⟨k1, k2, k3, k4⟩
    · omega
    · unfold pN
      rw [prs_dg ⟨k2, k3⟩]
      dsimp only
      omega
    · omega
    · omega
theorem op_open {lc : Int32} {ls lf ld : Nat → Int32} {hm : Int32} {hs : Nat → Int32} (hl : RLn lc ls lf ld hm hs) : ∃ q, f_X10_open lc = some q ∧ ∃ r, f_X11_open hm = some r ∧ q.1 = r.1 ∧ RLn q.2 ls lf ld r.2 hs := by
  obtain ⟨t, sg, h1, h2, h3⟩ := id hl
  obtain ⟨rfl, ht, hh⟩ := id h1
  have empty : RLn (0 : Int32) ls lf ld (0 : Int32) hs := ⟨0, sg, ⟨rfl, by omega, fun j hj => by omega⟩, Or.inl rfl, rfl, Nat.zero_le 10, fun l hl => absurd hl (Nat.not_lt_zero l)⟩
  unfold f_X10_open f_X11_open
  rcases h2 with z | z
  · subst z
    have : lc = 0 := h3.1
    subst this
    exact ⟨(0, 0), by rw [if_pos rfl], (0, 0), by rw [if_pos (by decide)], rfl, empty⟩
  · obtain ⟨p1, p2⟩ := pN_pos (fun j hj => (hh j hj).2) z
    have hL := h3.2.1
    refine ⟨(1, 0), by rw [if_neg (by rw [h3.1]; exact nI_ne0 (by omega) (by omega))], (1, 0), by rw [if_neg (nI_nle (by omega) (by omega))], rfl, empty⟩
