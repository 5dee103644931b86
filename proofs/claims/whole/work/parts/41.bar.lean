/-! which line is broken -/
def fbk (B : Nat → Bool) : Nat → Option Nat
  | 0 => none
  | n + 1 => match fbk B n with
    | some l => some l
    | none => if B n = true then some n else none
theorem fbk_s (B : Nat → Bool) (n : Nat) : fbk B (n + 1) = match fbk B n with
    | some l => some l
    | none => if B n = true then some n else none := rfl
theorem fbk_stay {B : Nat → Bool} {n l : Nat} (h : fbk B n = some l) : ∀ d, fbk B (n + d) = some l
  | 0 => h
  | d + 1 => by rw [← Nat.add_assoc, fbk_s, fbk_stay h d]
theorem fbk_lt {B : Nat → Bool} : ∀ {n l : Nat}, fbk B n = some l → l < n
  | 0, l, h => by cases h
  | n + 1, l, h => by
    rw [fbk_s] at h
    cases e : fbk B n with
    | some m =>
      rw [e] at h
      cases h
      have := fbk_lt e
      omega
    | none =>
      rw [e] at h
      dsimp only at h
      split at h
      · cases h; omega
      · cases h
/-- a line that is not so -/
def brk (s f d x : Nat) : Bool := if f = 1 then decide (d ≤ pc8 (s &&& x)) else decide (pc8 (s &&& x) ≤ d)
abbrev brkL (LS LF LD : Nat → Nat) (x : Nat) : Nat → Bool := fun l => brk (LS l) (LF l) (LD l) x
theorem firstBroken_eq {vc : Int32} {sets fewer digits : Nat → Int32} {L : Nat} {LS LF LD : Nat → Nat} (h : lns vc sets fewer digits L LS LF LD) {x : Nat} (hx : x < 256) : f_X4_firstBroken (nI x) vc digits fewer sets = some (encN (fbk (brkL LS LF LD x) L)) := by
  obtain ⟨rfl, hL, hh⟩ := h
  have h1 := up0 (k := L) (fun n i => fbk (brkL LS LF LD x) i = none → lp_X4_firstBroken_2 (nI x) (nI L) digits fewer sets (fun _ => some (-6 : Int32)) n (nI i) = some (encN (fbk (brkL LS LF LD x) L))) (by omega)
    (fun n a => by rw [lp_X4_firstBroken_2, if_pos ((le40 (by omega) (by omega)).mpr (Nat.le_refl _)), a]; rfl)
    (fun n i hi ih a => by
      obtain ⟨⟨s1, s2⟩, ⟨f1, f2⟩, ⟨d1, d2⟩⟩ := hh i hi
      have ha := and_lt8 (b := x) s2
      have hp := pc8_le (LS i &&& x)
      rw [lp_X4_firstBroken_2, if_neg (by rw [le40 (by omega) (by omega)]; omega)]
      simp (disch := omega) only [ob_inN, nI_clamp, eq_self, if_true, s1, f1, d1, fa_and, bitCount_8 _ ha, ob_sb, nI_1, nI_ltI]
      have ex : ∀ l, fbk (brkL LS LF LD x) (i + 1) = some l → fbk (brkL LS LF LD x) L = some l := fun l hl => by
        have := fbk_stay hl (L - (i + 1))
        rw [show i + 1 + (L - (i + 1)) = L by omega] at this
        exact this
      have en : brkL LS LF LD x i = true → some (nI i) = some (encN (fbk (brkL LS LF LD x) L)) := fun hb => by
        rw [ex i (by rw [fbk_s, a]; dsimp only; rw [if_pos hb])]
        rfl
      have go : ¬ brkL LS LF LD x i = true → lp_X4_firstBroken_2 (nI x) (nI L) digits fewer sets (fun _ => some (-6 : Int32)) n (nI (i + 1)) = some (encN (fbk (brkL LS LF LD x) L)) := fun hb => ih (by rw [fbk_s, a]; dsimp only; rw [if_neg hb])
      have f0 : (nI (LF i) = 0) ↔ LF i = 0 := nI_eq (b := 0) (by omega) (by decide)
      by_cases q : LF i = 0
      · rw [if_pos (f0.mpr q)]
        have hbe : brkL LS LF LD x i = decide (pc8 (LS i &&& x) ≤ LD i) := by
          show brk (LS i) (LF i) (LD i) x = _
          unfold brk
          rw [if_neg (by omega)]
        by_cases g : LD i < pc8 (LS i &&& x)
        · rw [if_pos g]
          exact go (by rw [hbe]; simp; omega)
        · rw [if_neg g]
          exact en (by rw [hbe]; simp; omega)
      · rw [if_neg (fun z => q (f0.mp z))]
        have hbe : brkL LS LF LD x i = decide (LD i ≤ pc8 (LS i &&& x)) := by
          show brk (LS i) (LF i) (LD i) x = _
          unfold brk
          rw [if_pos (by omega)]
        by_cases g : pc8 (LS i &&& x) < LD i
        · rw [if_pos g]
          exact go (by rw [hbe]; simp; omega)
        · rw [if_neg g]
          exact en (by rw [hbe]; simp; omega))
  exact h1 rfl
theorem allow_eq {vc : Int32} {sets fewer digits : Nat → Int32} {L : Nat} {LS LF LD : Nat → Nat} (h : lns vc sets fewer digits L LS LF LD) {x : Nat} (hx : x < 256) : f_X4_allow (nI x) vc digits fewer sets = some (if fbk (brkL LS LF LD x) L = none then 1 else 0) := by
  unfold f_X4_allow
  rw [firstBroken_eq h hx, ob_sb]
  cases e : fbk (brkL LS LF LD x) L with
  | none => rfl
  | some l =>
    have := fbk_lt e
    have := h.2.1
    rw [encN_s, if_neg (nI_ne6 (by omega)), if_neg (fun z => by cases z)]
/-- a line's entries stay once they are there -/
theorem prs_keep {sg : Nat → Nat} : ∀ d i l, l < pN sg i → pN sg i ≤ pN sg (i + d) ∧ pLS sg (i + d) l = pLS sg i l ∧ pLF sg (i + d) l = pLF sg i l ∧ pLD sg (i + d) l = pLD sg i l
  | 0, i, l, _ => ⟨Nat.le_refl _, rfl, rfl, rfl⟩
  | d + 1, i, l, hl => by
    obtain ⟨h1, h2, h3, h4⟩ := prs_keep d i l hl
    rw [← Nat.add_assoc]
    unfold pN pLS pLF pLD at *
    rw [prs]
    split
    · exact ⟨h1, h2, h3, h4⟩
    · split
      · exact ⟨h1, h2, h3, h4⟩
      · split
        · exact ⟨h1, h2, h3, h4⟩
        · split
          · exact ⟨h1, h2, h3, h4⟩
          · dsimp only
            rw [if_neg (by omega), if_neg (by omega), if_neg (by omega)]
            exact ⟨by omega, h2, h3, h4⟩
theorem prs_x0 {sg : Nat → Nat} {t : Nat} (hs : ∀ j, j < t → sg j < 128) : ∀ i, i ≤ t → rs sg i = some 10 → pX sg i = 0
  | 0, _, h => by cases h
  | i + 1, hi, h => by
    rw [rs_s] at h
    cases e : rs sg i with
    | none => rw [e] at h; cases h
    | some d =>
      rw [e, ob_sb] at h
      have hd := rs_lt hs i (by omega) d e
      rcases stp_kind hd h with ⟨k1, k2, k3⟩ | ⟨k1, k2, k3, k4⟩ | ⟨k1, k2, k3, k4, k5⟩ | ⟨k1, k2, k3, k4⟩
      · omega
      · unfold pX
        rw [prs_dg ⟨k2, k3⟩]
      · omega
      · omega
theorem barOf_eq {vl : Int32} {signs : Nat → Int32} {t : Nat} {sg : Nat → Nat} (h : txt vl signs t sg) (hr : t = 0 ∨ rs sg t = some 10) {x : Nat} (hx : x < 256) : f_X11_barOf (nI x) vl signs = some (encN (fbk (brkL (pLS sg t) (pLF sg t) (pLD sg t) x) (pN sg t))) := by
  obtain ⟨rfl, ht, hs⟩ := h
  have hs' : ∀ j, j < t → sg j < 128 := fun j hj => (hs j hj).2
  have hrs : ∀ i, i ≤ t → ∃ c, rs sg i = some c := fun i hi => by
    rcases hr with hr | hr
    · obtain rfl : i = 0 := by omega
      exact ⟨0, rfl⟩
    · cases e : rs sg i with
      | some c => exact ⟨c, rfl⟩
      | none =>
        have := rs_none e (t - i)
        rw [show i + (t - i) = t by omega, hr] at this
        cases this
  generalize hB : brkL (pLS sg t) (pLF sg t) (pLD sg t) x = B
  have h1 := up0 (k := t) (fun n i => ∀ (y2 y3 y4 : Int32) (c : Nat), rs sg i = some c → fbk B (pN sg i) = none → (c = 10 → y2 + 1 = nI (pN sg i)) → (¬ c = 10 → y2 = nI (pN sg i) ∧ y3 = nI (pX sg i)) → ((y4 = 60 ∧ pF sg i = 1) ∨ (¬ y4 = 60 ∧ pF sg i = 0)) → lp_X11_barOf_10 (nI x) (nI t) signs (fun _ => some (-6 : Int32)) n y2 y3 y4 (nI i) = some (encN (fbk B (pN sg t)))) (by omega)
    (fun n y2 y3 y4 c _ a2 _ _ _ => by rw [lp_X11_barOf_10, if_pos ((le40 ht ht).mpr (Nat.le_refl _)), a2]; rfl)
    (fun n i hi ih y2 y3 y4 c hc a2 a3 a4 a5 => by
      obtain ⟨s1, s2⟩ := hs i hi
      obtain ⟨d, hd⟩ := hrs (i + 1) (by omega)
      have hd0 := hd
      rw [rs_s, hc, ob_sb] at hd
      obtain ⟨p1, p2, p3, p4, p5, p6, p7⟩ := prs_ok hs' i (by omega) c hc
      have IN : ∀ lo hi : Nat, lo < 128 → hi < 128 → f_X11_in (nI (sg i)) (nI lo) (nI hi) = some (if lo ≤ sg i ∧ sg i ≤ hi then 1 else 0) := fun lo hi hl hh => by
        by_cases q : lo ≤ sg i ∧ sg i ≤ hi
        · rw [if_pos q, in_1 (by rw [nI_leI (by omega) (by omega)]; exact q.1) (by rw [nI_leI (by omega) (by omega)]; exact q.2)]
        · rw [if_neg q, in_0 (by rw [nI_ltI (by omega) (by omega), nI_ltI (by omega) (by omega)]; omega)]
      rw [lp_X11_barOf_10, if_neg (by rw [le40 (by omega) (by omega)]; omega), if_pos (ob_inN (by omega) (by decide)), nI_clamp (by omega), s1, nI_1]
      rw [show (97 : Int32) = nI 97 from rfl, show (104 : Int32) = nI 104 from rfl, show (48 : Int32) = nI 48 from rfl, show (52 : Int32) = nI 52 from rfl, IN 97 104 (by decide) (by decide), IN 48 52 (by decide) (by decide), ob_sb, ob_sb]
      rcases stp_kind (rs_lt hs' i (by omega) c hc) hd with ⟨k1, k2, k3⟩ | ⟨k1, k2, k3, k4⟩ | ⟨k1, k2, k3, k4, k5⟩ | ⟨k1, k2, k3, k4⟩
      · rw [show (if 97 ≤ sg i ∧ sg i ≤ 104 then (1 : Int32) else 0) = 0 from if_neg (by omega), show (if 48 ≤ sg i ∧ sg i ≤ 52 then (1 : Int32) else 0) = 0 from if_neg (by omega), if_pos rfl, if_pos rfl, if_pos (by rw [k2]; rfl)]
        refine ih _ _ _ d hd0 (by unfold pN; rw [prs_sc k2]; exact a2) (fun z => by omega) (fun _ => ⟨?_, ?_⟩) (by unfold pF; rw [prs_sc k2]; exact a5)
        · unfold pN
          rw [prs_sc k2]
          exact a3 k1
        · unfold pX
          rw [prs_sc k2, nI_0']
          exact (congrArg nI (prs_x0 hs' i (by omega) (by rw [hc, k1]))).symm
      · obtain ⟨b1, b2⟩ := a4 (by omega)
        subst b1
        subst b2
        have ha := and_lt8 (b := x) p5
        have hp := pc8_le (pX sg i &&& x)
        have hNi : pN sg (i + 1) = pN sg i + 1 := by unfold pN; rw [prs_dg ⟨k2, k3⟩]
        have hk := prs_keep (sg := sg) (t - (i + 1)) (i + 1) (pN sg i) (by omega)
        rw [show i + 1 + (t - (i + 1)) = t by omega] at hk
        obtain ⟨kk1, kk2, kk3, kk4⟩ := hk
        have e1 : pLS sg t (pN sg i) = pX sg i := by
          rw [kk2]; unfold pLS; rw [prs_dg ⟨k2, k3⟩]; dsimp only; rw [if_pos rfl]
        have e2 : pLF sg t (pN sg i) = pF sg i := by
          rw [kk3]; unfold pLF; rw [prs_dg ⟨k2, k3⟩]; dsimp only; rw [if_pos rfl]
        have e3 : pLD sg t (pN sg i) = sg i - 48 := by
          rw [kk4]; unfold pLD; rw [prs_dg ⟨k2, k3⟩]; dsimp only; rw [if_pos rfl]
        have hBe : B (pN sg i) = brk (pX sg i) (pF sg i) (sg i - 48) x := by
          rw [← hB]
          show brk (pLS sg t (pN sg i)) (pLF sg t (pN sg i)) (pLD sg t (pN sg i)) x = _
          rw [e1, e2, e3]
        have en : B (pN sg i) = true → some (nI (pN sg i)) = some (encN (fbk B (pN sg t))) := fun hb => by
          have h2 : fbk B (pN sg i + 1) = some (pN sg i) := by rw [fbk_s, a2]; dsimp only; rw [if_pos hb]
          have h3 := fbk_stay h2 (pN sg t - (pN sg i + 1))
          rw [show pN sg i + 1 + (pN sg t - (pN sg i + 1)) = pN sg t by omega] at h3
          rw [h3]
          rfl
        have go : ¬ B (pN sg i) = true → lp_X11_barOf_10 (nI x) (nI t) signs (fun _ => some (-6 : Int32)) n (nI (pN sg i)) (nI (pX sg i)) y4 (nI (i + 1)) = some (encN (fbk B (pN sg t))) := fun hb => by
          refine ih _ _ _ d hd0 (by rw [hNi, fbk_s, a2]; dsimp only; rw [if_neg hb]) (fun _ => by rw [hNi, nI_1]) (fun z => by omega) (by unfold pF; rw [prs_dg ⟨k2, k3⟩]; exact a5)
        rw [show (if 97 ≤ sg i ∧ sg i ≤ 104 then (1 : Int32) else 0) = 0 from if_neg (by omega), show (if 48 ≤ sg i ∧ sg i ≤ 52 then (1 : Int32) else 0) = 1 from if_pos ⟨k2, k3⟩, if_pos rfl, if_neg (by decide), fa_and, bits_8 _ ha, ob_sb, pk_sub k2]
        unfold brk at hBe
        rcases a5 with ⟨w1, w2⟩ | ⟨w1, w2⟩
        · rw [if_pos w2] at hBe
          rw [if_pos w1]
          by_cases g : pc8 (pX sg i &&& x) < sg i - 48
          · rw [if_pos (by rw [nI_ltI (by omega) (by omega)]; exact g)]
            exact go (by rw [hBe]; simp; omega)
          · rw [if_neg (by rw [nI_ltI (by omega) (by omega)]; exact g)]
            exact en (by rw [hBe]; simp; omega)
        · rw [if_neg (by omega)] at hBe
          rw [if_neg w1]
          by_cases g : sg i - 48 < pc8 (pX sg i &&& x)
          · rw [if_pos (by rw [nI_ltI (by omega) (by omega)]; exact g)]
            exact go (by rw [hBe]; simp; omega)
          · rw [if_neg (by rw [nI_ltI (by omega) (by omega)]; exact g)]
            exact en (by rw [hBe]; simp; omega)
      · obtain ⟨b1, b2⟩ := a4 (by omega)
        subst b1
        subst b2
        rw [show (if 97 ≤ sg i ∧ sg i ≤ 104 then (1 : Int32) else 0) = 1 from if_pos ⟨k2, k3⟩, if_neg (by decide), pk_sub k2, pb_or1 (by omega)]
        refine ih _ _ _ d hd0 (by unfold pN; rw [prs_let ⟨k2, k3⟩]; exact a2) (fun z => by omega) (fun _ => ⟨?_, ?_⟩) (by unfold pF; rw [prs_let ⟨k2, k3⟩]; exact a5)
        · unfold pN
          rw [prs_let ⟨k2, k3⟩]
        · unfold pX
          rw [prs_let ⟨k2, k3⟩]
      · obtain ⟨b1, b2⟩ := a4 (by omega)
        subst b1
        subst b2
        rcases k3 with k3 | k3
        · rw [show (if 97 ≤ sg i ∧ sg i ≤ 104 then (1 : Int32) else 0) = 0 from if_neg (by omega), show (if 48 ≤ sg i ∧ sg i ≤ 52 then (1 : Int32) else 0) = 0 from if_neg (by omega), if_pos rfl, if_pos rfl, if_neg (by rw [k3]; decide)]
          refine ih _ _ _ d hd0 (by unfold pN; rw [prs_lt k3]; exact a2) (fun z => by omega) (fun _ => ⟨?_, ?_⟩) (Or.inl ⟨by rw [k3]; rfl, by unfold pF; rw [prs_lt k3]⟩)
          · unfold pN
            rw [prs_lt k3]
          · unfold pX
            rw [prs_lt k3]
        · rw [show (if 97 ≤ sg i ∧ sg i ≤ 104 then (1 : Int32) else 0) = 0 from if_neg (by omega), show (if 48 ≤ sg i ∧ sg i ≤ 52 then (1 : Int32) else 0) = 0 from if_neg (by omega), if_pos rfl, if_pos rfl, if_neg (by rw [k3]; decide)]
          refine ih _ _ _ d hd0 (by unfold pN; rw [prs_gt k3]; exact a2) (fun z => by omega) (fun _ => ⟨?_, ?_⟩) (Or.inr ⟨by rw [k3]; decide, by unfold pF; rw [prs_gt k3]⟩)
          · unfold pN
            rw [prs_gt k3]
          · unfold pX
            rw [prs_gt k3])
  exact h1 0 0 0 0 rfl rfl (fun z => by omega) (fun _ => ⟨rfl, rfl⟩) (Or.inr ⟨by decide, rfl⟩)
