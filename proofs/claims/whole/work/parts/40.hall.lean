/-! HALLS: what a text without a fault says -/
/-- lines, the set so far, fewer or not, the lines' sets, kinds, digits: behind i signs -/
def prs (sg : Nat → Nat) : Nat → Nat × Nat × Nat × (Nat → Nat) × (Nat → Nat) × (Nat → Nat)
  | 0 => (0, 0, 0, fun _ => 0, fun _ => 0, fun _ => 0)
  | i + 1 =>
    if 97 ≤ sg i ∧ sg i ≤ 104 then ((prs sg i).1, (prs sg i).2.1 ||| 2 ^ (sg i - 97), (prs sg i).2.2.1, (prs sg i).2.2.2.1, (prs sg i).2.2.2.2.1, (prs sg i).2.2.2.2.2)
    else if sg i = 60 then ((prs sg i).1, (prs sg i).2.1, 1, (prs sg i).2.2.2.1, (prs sg i).2.2.2.2.1, (prs sg i).2.2.2.2.2)
    else if sg i = 62 then ((prs sg i).1, (prs sg i).2.1, 0, (prs sg i).2.2.2.1, (prs sg i).2.2.2.2.1, (prs sg i).2.2.2.2.2)
    else if sg i = 59 then prs sg i
    else ((prs sg i).1 + 1, 0, (prs sg i).2.2.1, fun l => if l = (prs sg i).1 then (prs sg i).2.1 else (prs sg i).2.2.2.1 l, fun l => if l = (prs sg i).1 then (prs sg i).2.2.1 else (prs sg i).2.2.2.2.1 l, fun l => if l = (prs sg i).1 then sg i - 48 else (prs sg i).2.2.2.2.2 l)
abbrev pN (sg : Nat → Nat) (i : Nat) : Nat := (prs sg i).1
abbrev pX (sg : Nat → Nat) (i : Nat) : Nat := (prs sg i).2.1
abbrev pF (sg : Nat → Nat) (i : Nat) : Nat := (prs sg i).2.2.1
abbrev pLS (sg : Nat → Nat) (i : Nat) : Nat → Nat := (prs sg i).2.2.2.1
abbrev pLF (sg : Nat → Nat) (i : Nat) : Nat → Nat := (prs sg i).2.2.2.2.1
abbrev pLD (sg : Nat → Nat) (i : Nat) : Nat → Nat := (prs sg i).2.2.2.2.2
/-- the kinds of step that a text without a fault takes -/
theorem stp_kind {c s d : Nat} (hc : c < 11) (h : stp c s = some d) : (c = 10 ∧ s = 59 ∧ d = 0) ∨ (c = 9 ∧ 48 ≤ s ∧ s ≤ 52 ∧ d = 10) ∨ (c ≤ 8 ∧ 97 ≤ s ∧ s ≤ 104 ∧ d = s - 96 ∧ c < d) ∨ (1 ≤ c ∧ c ≤ 8 ∧ (s = 60 ∨ s = 62) ∧ d = 9) := by
  unfold stp at h
  split at h
  · split at h
    · cases h; left; omega
    · cases h
  · split at h
    · split at h
      · cases h; right; left; omega
      · cases h
    · split at h
      · cases h; right; right; left; omega
      · split at h
        · cases h; right; right; right; omega
        · cases h
theorem prs_let {sg : Nat → Nat} {i : Nat} (h : 97 ≤ sg i ∧ sg i ≤ 104) : prs sg (i + 1) = (pN sg i, pX sg i ||| 2 ^ (sg i - 97), pF sg i, pLS sg i, pLF sg i, pLD sg i) := by rw [prs, if_pos h]
theorem prs_lt {sg : Nat → Nat} {i : Nat} (h : sg i = 60) : prs sg (i + 1) = (pN sg i, pX sg i, 1, pLS sg i, pLF sg i, pLD sg i) := by rw [prs, if_neg (by omega), if_pos h]
theorem prs_gt {sg : Nat → Nat} {i : Nat} (h : sg i = 62) : prs sg (i + 1) = (pN sg i, pX sg i, 0, pLS sg i, pLF sg i, pLD sg i) := by rw [prs, if_neg (by omega), if_neg (by omega), if_pos h]
theorem prs_sc {sg : Nat → Nat} {i : Nat} (h : sg i = 59) : prs sg (i + 1) = prs sg i := by rw [prs, if_neg (by omega), if_neg (by omega), if_neg (by omega), if_pos h]
theorem prs_dg {sg : Nat → Nat} {i : Nat} (h : 48 ≤ sg i ∧ sg i ≤ 52) : prs sg (i + 1) = (pN sg i + 1, 0, pF sg i, fun l => if l = pN sg i then pX sg i else pLS sg i l, fun l => if l = pN sg i then pF sg i else pLF sg i l, fun l => if l = pN sg i then sg i - 48 else pLD sg i l) := by rw [prs, if_neg (by omega), if_neg (by omega), if_neg (by omega), if_neg (by omega)]
/-- how far the lines are, and that all stays small -/
theorem prs_ok {sg : Nat → Nat} {t : Nat} (hs : ∀ j, j < t → sg j < 128) : ∀ i, i ≤ t → ∀ c, rs sg i = some c → (c = 0 → 4 * pN sg i ≤ i) ∧ (1 ≤ c → c ≤ 8 → 4 * pN sg i + 1 ≤ i) ∧ (c = 9 → 4 * pN sg i + 2 ≤ i) ∧ (c = 10 → 4 * pN sg i ≤ i + 1) ∧ pX sg i < 256 ∧ pF sg i ≤ 1 ∧ ∀ l, l < pN sg i → pLS sg i l < 256 ∧ pLF sg i l ≤ 1 ∧ pLD sg i l ≤ 4
  | 0, _, c, h => by
    cases h
    exact ⟨fun _ => Nat.le_refl 0, fun h => by omega, fun h => by omega, fun h => by omega, (by decide : (0 : Nat) < 256), Nat.zero_le 1, fun l hl => absurd hl (Nat.not_lt_zero l)⟩
  | i + 1, hi, c, h => by
    rw [rs_s] at h
    cases e : rs sg i with
    | none => rw [e] at h; cases h
    | some d =>
      rw [e, ob_sb] at h
      obtain ⟨h1, h2, h3, h4, h5, h6, h7⟩ := prs_ok hs i (by omega) d e
      have hd := rs_lt hs i (by omega) d e
      rcases stp_kind hd h with ⟨k1, k2, k3⟩ | ⟨k1, k2, k3, k4⟩ | ⟨k1, k2, k3, k4, k5⟩ | ⟨k1, k2, k3, k4⟩
      · unfold pN pX pF pLS pLF pLD
        rw [prs_sc k2]
        have := h4 k1
        exact ⟨fun _ => this, fun _ _ => by omega, fun _ => by omega, fun _ => by omega, h5, h6, h7⟩
      · unfold pN pX pF pLS pLF pLD
        rw [prs_dg ⟨k2, k3⟩]
        have := h3 k1
        refine ⟨fun _ => by omega, fun _ _ => by omega, fun _ => by omega, fun _ => ?_, (by decide : (0 : Nat) < 256), h6, fun l hl => ?_⟩
        · dsimp only
          omega
        · dsimp only at hl ⊢
          by_cases q : l = pN sg i
          · rw [if_pos q, if_pos q, if_pos q]
            exact ⟨h5, h6, by omega⟩
          · rw [if_neg q, if_neg q, if_neg q]
            exact h7 l (by omega)
      · unfold pN pX pF pLS pLF pLD
        rw [prs_let ⟨k2, k3⟩]
        refine ⟨fun _ => by omega, fun _ _ => ?_, fun _ => by omega, fun _ => by omega, or_pow_lt _ h5 _ (by omega), h6, h7⟩
        dsimp only
        rcases Nat.eq_zero_or_pos d with q | q
        · have := h1 q; omega
        · have := h2 q k1; omega
      · unfold pN pX pF pLS pLF pLD
        have := h2 k1 k2
        rcases k3 with k3 | k3
        · rw [prs_lt k3]
          exact ⟨fun _ => by omega, fun _ _ => by omega, fun _ => by dsimp only; omega, fun _ => by omega, h5, Nat.le_refl 1, h7⟩
        · rw [prs_gt k3]
          exact ⟨fun _ => by omega, fun _ _ => by omega, fun _ => by dsimp only; omega, fun _ => by omega, h5, Nat.zero_le 1, h7⟩
/-- lines, as the class keeps them -/
def lns (vc : Int32) (sets fewer digits : Nat → Int32) (L : Nat) (LS LF LD : Nat → Nat) : Prop := vc = nI L ∧ L ≤ 10 ∧ ∀ l, l < L → (sets l = nI (LS l) ∧ LS l < 256) ∧ (fewer l = nI (LF l) ∧ LF l ≤ 1) ∧ (digits l = nI (LD l) ∧ LD l ≤ 4)
theorem nar01 : ∀ f, f < 2 → vp_nar .boolean (nI f) = nI f := by decide +kernel
theorem append4_eq {x f g L : Nat} (hL : L < 10) (hf : f ≤ 1) (sets fewer digits : Nat → Int32) : f_X4_append (nI x) (nI f) (nI g) (nI L) digits fewer sets = some (nI (L + 1), upd digits L (nI g), upd fewer L (nI f), upd sets L (nI x)) := by
  unfold f_X4_append
  rw [if_neg (nI_nneg (by omega)), if_neg (by rw [show (10 : Int32) = nI 10 from rfl, nI_leI (by omega) (by omega)]; omega)]
  simp (disch := omega) only [ob_inN, nI_clamp, ob_sb, eq_self, if_true, if_false, nI_1, nI_add, pk_mul, nar01 f (by omega)]
theorem read_eq {vl : Int32} {signs : Nat → Int32} {t : Nat} {sg : Nat → Nat} (h : txt vl signs t sg) (hr : rs sg t = some 10) (c0 : Int32) (digits fewer sets : Nat → Int32) : ∃ vc d2 f2 s2, f_X4_read vl c0 signs digits fewer sets = some (vc, d2, f2, s2) ∧ lns vc s2 f2 d2 (pN sg t) (pLS sg t) (pLF sg t) (pLD sg t) := by
  obtain ⟨rfl, ht, hs⟩ := h
  have hs' : ∀ j, j < t → sg j < 128 := fun j hj => (hs j hj).2
  have hrs : ∀ i, i ≤ t → ∃ c, rs sg i = some c := fun i hi => by
    cases e : rs sg i with
    | some c => exact ⟨c, rfl⟩
    | none =>
      have := rs_none e (t - i)
      rw [show i + (t - i) = t by omega, hr] at this
      cases this
  have hN : pN sg t ≤ 10 := by
    have := (prs_ok hs' t (Nat.le_refl t) 10 hr).2.2.2.1 rfl
    omega
  have h1 := up0 (k := t) (fun n i => ∀ digits fewer sets : Nat → Int32, (∀ l, l < pN sg i → sets l = nI (pLS sg i l) ∧ fewer l = nI (pLF sg i l) ∧ digits l = nI (pLD sg i l)) → ∃ vc d2 f2 s2, lp_X4_read_12 (nI t) signs n (nI (pX sg i)) (nI (pF sg i)) (nI i) (nI (pN sg i)) digits fewer sets = some (vc, d2, f2, s2) ∧ lns vc s2 f2 d2 (pN sg t) (pLS sg t) (pLF sg t) (pLD sg t)) (by omega)
    (fun n digits fewer sets a => by
      refine ⟨_, _, _, _, by rw [lp_X4_read_12, if_pos ((le40 ht ht).mpr (Nat.le_refl _))], rfl, hN, fun l hl => ?_⟩
      obtain ⟨a1, a2, a3⟩ := a l hl
      obtain ⟨b1, b2, b3⟩ := (prs_ok hs' t (Nat.le_refl t) 10 hr).2.2.2.2.2.2 l hl
      exact ⟨⟨a1, b1⟩, ⟨a2, b2⟩, ⟨a3, b3⟩⟩)
    (fun n i hi ih digits fewer sets a => by
      obtain ⟨s1, s2⟩ := hs i hi
      obtain ⟨c, hc⟩ := hrs i (by omega)
      obtain ⟨d, hd⟩ := hrs (i + 1) (by omega)
      rw [rs_s, hc, ob_sb] at hd
      obtain ⟨p1, p2, p3, p4, p5, p6, p7⟩ := prs_ok hs' i (by omega) c hc
      have L1 : ∀ m, m < 128 → ((nI (sg i) < nI m) ↔ sg i < m) := fun m hm => nI_ltI (by omega) (by omega)
      have L2 : ∀ m, m < 128 → ((nI m < nI (sg i)) ↔ m < sg i) := fun m hm => nI_ltI (by omega) (by omega)
      have L3 : ∀ m, m < 128 → ((nI (sg i) = nI m) ↔ sg i = m) := fun m hm => nI_eq (by omega) (by omega)
      rw [lp_X4_read_12, if_neg (by rw [le40 (by omega) (by omega)]; omega), if_pos (ob_inN (by omega) (by decide)), nI_clamp (by omega), s1, nI_1]
      rw [show (97 : Int32) = nI 97 from rfl, show (104 : Int32) = nI 104 from rfl, show (60 : Int32) = nI 60 from rfl, show (62 : Int32) = nI 62 from rfl, show (59 : Int32) = nI 59 from rfl, show (48 : Int32) = nI 48 from rfl]
      simp only [L1 97 (by decide), L2 104 (by decide), L3 60 (by decide), L3 62 (by decide), L3 59 (by decide)]
      rcases stp_kind (rs_lt hs' i (by omega) c hc) hd with ⟨k1, k2, k3⟩ | ⟨k1, k2, k3, k4⟩ | ⟨k1, k2, k3, k4, k5⟩ | ⟨k1, k2, k3, k4⟩
      · rw [if_pos (by omega), if_neg (by omega), if_neg (by omega), if_pos k2]
        have := ih digits fewer sets (by unfold pN pLS pLF pLD; rw [prs_sc k2]; exact a)
        unfold pX pF pN at this
        rw [prs_sc k2] at this
        exact this
      · have hN9 : pN sg i < 10 := by have := p3 k1; omega
        rw [if_pos (by omega), if_neg (by omega), if_neg (by omega), if_neg (by omega), pk_sub k2, append4_eq hN9 p6, ob_sb]
        dsimp only
        have := ih (upd digits (pN sg i) (nI (sg i - 48))) (upd fewer (pN sg i) (nI (pF sg i))) (upd sets (pN sg i) (nI (pX sg i))) (by
          unfold pN pLS pLF pLD
          rw [prs_dg ⟨k2, k3⟩]
          intro l hl
          dsimp only at hl ⊢
          by_cases q : l = pN sg i
          · subst q
            rw [if_pos rfl, if_pos rfl, if_pos rfl, pk_us, pk_us, pk_us]
            exact ⟨rfl, rfl, rfl⟩
          · rw [if_neg q, if_neg q, if_neg q, pk_un q, pk_un q, pk_un q]
            exact a l (by omega))
        unfold pX pF pN at this
        rw [prs_dg ⟨k2, k3⟩] at this
        exact this
      · rw [if_neg (by omega), if_neg (by omega), pk_sub k2, pb_or1 (by omega)]
        have := ih digits fewer sets (by unfold pN pLS pLF pLD; rw [prs_let ⟨k2, k3⟩]; exact a)
        unfold pX pF pN at this
        rw [prs_let ⟨k2, k3⟩] at this
        exact this
      · rcases k3 with k3 | k3
        · rw [if_pos (by omega), if_pos k3, if_pos k3]
          have := ih digits fewer sets (by unfold pN pLS pLF pLD; rw [prs_lt k3]; exact a)
          unfold pX pF pN at this
          rw [prs_lt k3] at this
          exact this
        · rw [if_pos (by omega), if_neg (by omega), if_pos k3, if_neg (by omega)]
          have := ih digits fewer sets (by unfold pN pLS pLF pLD; rw [prs_gt k3]; exact a)
          unfold pX pF pN at this
          rw [prs_gt k3] at this
          exact this)
  obtain ⟨vc, d2, f2, s2, e1, e2⟩ := h1 digits fewer sets (fun l hl => absurd hl (Nat.not_lt_zero l))
  refine ⟨vc, d2, f2, s2, ?_, e2⟩
  unfold f_X4_read
  rw [show lp_X4_read_12 (nI t) signs FU (0 : Int32) (0 : Int32) (0 : Int32) (0 : Int32) digits fewer sets = some (vc, d2, f2, s2) from e1]
  rfl
