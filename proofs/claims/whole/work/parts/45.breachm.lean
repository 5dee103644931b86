/-! BREACH: the reference -/
theorem owedlp_eq {cnt : Int32} {sets papers : Nat → Int32} {k : Nat} {S P : Nat → Nat} (h : hp cnt sets papers k S P) {g : Nat} (hg : g < 64) (y2 : Int32) : lp_X11_isOwed_10 (nI g) y2 cnt papers sets FU (255 : Int32) (0 : Int32) (0 : Int32) = some (nI (gCm S k g), nI (gPp P k g)) := by
  obtain ⟨rfl, hk, hh, -⟩ := h
  have h1 := up0 (k := k) (fun n i => lp_X11_isOwed_10 (nI g) y2 (nI k) papers sets n (nI (gCm S i g)) (nI (gPp P i g)) (nI i) = some (nI (gCm S k g), nI (gPp P k g))) (by omega)
    (fun n => by rw [lp_X11_isOwed_10, if_pos ((nI_le7 hk hk).mpr (Nat.le_refl _))])
    (fun n i hi ih => by
      obtain ⟨e1, e2, e3⟩ := hh i hi
      rw [gCm, gPp, fd_s, fd_s] at ih
      rw [lp_X11_isOwed_10, if_neg (by rw [nI_le7 hk (by omega)]; omega)]
      simp (disch := omega) only [ob_inN, nI_clamp, eq_self, if_true, e1, e3, pb_bit, fa_and, nI_add, nI_1]
      rcases bt_01 g i with q | q
      · rw [if_neg (by omega), if_neg (by omega)] at ih
        rw [q, if_neg (by decide)]
        exact ih
      · rw [if_pos q, if_pos q] at ih
        rw [q, if_pos (by decide)]
        exact ih)
  exact h1
theorem isOwed_eq {cnt : Int32} {sets papers : Nat → Int32} {k : Nat} {S P : Nat → Nat} (h : hp cnt sets papers k S P) (hT : 0 < sm P k) {g l s : Nat} (hg : g < 64) (hl : l ≤ 4) (hs : s ≤ 4) : f_X11_isOwed (nI g) (nI l) cnt (nI s) papers sets = some (if l ≤ due k S P s g then 1 else 0) := by
  have hcl := gCm_lt (S := S) (k := k) g
  have hpc := pc8_le (gCm S k g)
  have hpl := gPp_le P g k
  have hP := h.2.2.2
  have hm1 : gPp P k g * s ≤ 600 * 4 := Nat.mul_le_mul (by omega) hs
  have hm2 : l * sm P k ≤ 4 * 600 := Nat.mul_le_mul hl hP
  have ho := owed_iff (S := S) (s := s) (g := g) (l := l) hT
  unfold f_X11_isOwed
  rw [owedlp_eq h hg, ob_sb]
  dsimp only
  rw [bits_8 _ hcl, ob_sb, allPapers_eq h, ob_sb, pk_mul, pk_mul]
  by_cases q : pc8 (gCm S k g) < l
  · rw [if_pos (by rw [nI_ltI (by omega) (by omega)]; exact q), if_neg (fun z => by have := (ho.mp z).1; omega)]
  · rw [if_neg (by rw [nI_ltI (by omega) (by omega)]; exact q)]
    by_cases q2 : gPp P k g * s < l * sm P k
    · rw [if_pos (by rw [nI_ltI (by omega) (by omega)]; exact q2), if_neg (fun z => by have := (ho.mp z).2; omega)]
    · rw [if_neg (by rw [nI_ltI (by omega) (by omega)]; exact q2), if_pos (ho.mpr ⟨by omega, by omega⟩)]
theorem lacks_eq {cnt : Int32} {sets papers : Nat → Int32} {k : Nat} {S P : Nat → Nat} (h : hp cnt sets papers k S P) {law x g l : Nat} (hlaw : law < 3) (hx : x < 256) (hg : g < 64) (hl : l ≤ 4) : f_X11_lacks (nI law) (nI x) (nI g) (nI l) cnt sets = some (if hasL law S x k g < l then 1 else 0) := by
  have hS : ∀ j, j < k → S j < 256 := fun j hj => (h.2.2.1 j hj).2.1
  obtain ⟨rfl, hk, hh, -⟩ := h
  have h1 := up0 (k := k) (fun n i => lp_X11_lacks_9 (nI law) (nI x) (nI g) (nI l) (nI k) sets n (nI (gAn S i g)) (nI (gMx S x i g)) (nI i) = some (nI (gAn S k g), nI (gMx S x k g))) (by omega)
    (fun n => by rw [lp_X11_lacks_9, if_pos ((nI_le7 hk hk).mpr (Nat.le_refl _))])
    (fun n i hi ih => by
      obtain ⟨e1, e2, e3⟩ := hh i hi
      have ha := and_lt8 (b := x) e2
      have hm := gMx_le S x g i
      have hm' : fd (fun a b => if a < b then b else a) 0 (fun j => pc8 (S j &&& x)) g i ≤ 8 := hm
      have hp := pc8_le (S i &&& x)
      rw [gAn, gMx, fd_s, fd_s] at ih
      rw [lp_X11_lacks_9, if_neg (by rw [nI_le7 hk (by omega)]; omega)]
      simp (disch := omega) only [ob_inN, nI_clamp, eq_self, if_true, e1, pb_bit, fa_and, fa_or, Nat.and_comm x, bits_8 _ ha, ob_sb, nI_1]
      rcases bt_01 g i with q | q
      · rw [if_neg (by omega), if_neg (by omega)] at ih
        rw [q, if_neg (by decide)]
        exact ih
      · rw [if_pos q, if_pos q] at ih
        rw [q, if_pos (by decide)]
        by_cases z : fd (fun a b => if a < b then b else a) 0 (fun j => pc8 (S j &&& x)) g i < pc8 (S i &&& x)
        · rw [if_pos z] at ih
          rw [if_neg (by rw [nI_leI (by omega) (by omega)]; show ¬ _ ≤ fd _ 0 _ g i; omega)]
          exact ih
        · rw [if_neg z] at ih
          rw [if_pos (by rw [nI_leI (by omega) (by omega)]; show _ ≤ fd _ 0 _ g i; omega)]
          exact ih)
  have hAl := gAn_lt hS g
  have l1 : (nI law = 1) ↔ law = 1 := nI_eq (b := 1) (by omega) (by decide)
  have hm := gMx_le S x g k
  have hpa := pc8_le (gAn S k g &&& x)
  unfold f_X11_lacks
  rw [show lp_X11_lacks_9 (nI law) (nI x) (nI g) (nI l) (nI k) sets FU (0 : Int32) (0 : Int32) (0 : Int32) = some (nI (gAn S k g), nI (gMx S x k g)) from h1, ob_sb]
  dsimp only
  unfold hasL
  by_cases q : law = 1
  · rw [if_pos (l1.mpr q), if_pos q, fa_and, bits_8 _ (and_lt8 hAl), ob_sb]
    by_cases z : pc8 (gAn S k g &&& x) < l
    · rw [if_neg (by rw [nI_leI (by omega) (by omega)]; omega), if_pos z]
    · rw [if_pos (by rw [nI_leI (by omega) (by omega)]; omega), if_neg z]
  · rw [if_neg (fun z => q (l1.mp z)), if_neg q]
    by_cases z : gMx S x k g < l
    · rw [if_neg (by rw [nI_leI (by omega) (by omega)]; omega), if_pos z]
    · rw [if_pos (by rw [nI_leI (by omega) (by omega)]; omega), if_neg z]
theorem amq_min {Q : Nat → Bool} {v : Nat → Nat} : ∀ {n b : Nat}, amq Q (gtW v) n = some b → (∀ c, c < n → Q c = true → v b ≤ v c) ∧ ∀ c, c < b → Q c = true → v b < v c := by
  intro n
  induction n with
  | zero => intro b h; cases h
  | succ n ih =>
    intro b h
    rw [amq_s] at h
    cases e : amq Q (gtW v) n with
    | none =>
      have hno : ∀ c, c < n → ¬ Q c = true := by
        have : ∀ m, amq Q (gtW v) m = none → ∀ c, c < m → ¬ Q c = true := by
          intro m
          induction m with
          | zero => intro _ c hc; omega
          | succ m ihm =>
            intro hm c hc
            rw [amq_s] at hm
            cases e2 : amq Q (gtW v) m with
            | none =>
              rw [e2] at hm
              dsimp only at hm
              by_cases q : Q m = true
              · rw [if_pos q] at hm; cases hm
              · rcases Nat.lt_or_ge c m with q1 | q1
                · exact ihm e2 c q1
                · obtain rfl : c = m := by omega
                  exact q
            | some d =>
              rw [e2] at hm
              dsimp only at hm
              split at hm <;> cases hm
        exact this n e
      rw [e] at h
      dsimp only at h
      by_cases q : Q n = true
      · rw [if_pos q] at h
        cases h
        refine ⟨fun c hc hq => ?_, fun c hc hq => absurd hq (hno c hc)⟩
        rcases Nat.lt_or_ge c n with q1 | q1
        · exact absurd hq (hno c q1)
        · obtain rfl : c = n := by omega
          exact Nat.le_refl _
      · rw [if_neg q] at h; cases h
    | some d =>
      obtain ⟨i1, i2⟩ := ih e
      have hd := amq_in e
      rw [e] at h
      dsimp only at h
      by_cases q : Q n = true ∧ gtW v d n = true
      · rw [if_pos q] at h
        cases h
        have hlt : v n < v d := by simpa using q.2
        refine ⟨fun c hc hq => ?_, fun c hc hq => ?_⟩
        · rcases Nat.lt_or_ge c n with q1 | q1
          · have := i1 c q1 hq
            omega
          · obtain rfl : c = n := by omega
            exact Nat.le_refl _
        · have := i1 c hc hq
          omega
      · rw [if_neg q] at h
        cases h
        refine ⟨fun c hc hq => ?_, i2⟩
        rcases Nat.lt_or_ge c n with q1 | q1
        · exact i1 c q1 hq
        · obtain rfl : c = n := by omega
          have : ¬ v c < v b := fun z => q ⟨hq, by simp [z]⟩
          omega
theorem amq_none {Q : Nat → Bool} {lt : Nat → Nat → Bool} : ∀ {m : Nat}, amq Q lt m = none → ∀ c, c < m → ¬ Q c = true := by
  intro m
  induction m with
  | zero => intro _ c hc; omega
  | succ m ihm =>
    intro hm c hc
    rw [amq_s] at hm
    cases e2 : amq Q lt m with
    | none =>
      rw [e2] at hm
      dsimp only at hm
      by_cases q : Q m = true
      · rw [if_pos q] at hm; cases hm
      · rcases Nat.lt_or_ge c m with q1 | q1
        · exact ihm e2 c q1
        · obtain rfl : c = m := by omega
          exact q
    | some d =>
      rw [e2] at hm
      dsimp only at hm
      split at hm <;> cases hm
theorem fbk_none {B : Nat → Bool} : ∀ {n : Nat}, (∀ c, c < n → ¬ B c = true) → fbk B n = none
  | 0, _ => rfl
  | n + 1, h => by rw [fbk_s, fbk_none (fun c hc => h c (by omega))]; dsimp only; rw [if_neg (h n (by omega))]
theorem fbk_first {B : Nat → Bool} {b n : Nat} (hb : b < n) (h1 : B b = true) (h2 : ∀ c, c < b → ¬ B c = true) : fbk B n = some b := by
  have : fbk B (b + 1) = some b := by rw [fbk_s, fbk_none h2]; dsimp only; rw [if_pos h1]
  have := fbk_stay this (n - (b + 1))
  rw [show b + 1 + (n - (b + 1)) = n by omega] at this
  exact this
abbrev bl (law k : Nat) (S P : Nat → Nat) (s x l : Nat) : Nat → Bool := fun g => decide (1 ≤ g ∧ l ≤ due k S P s g ∧ hasL law S x k g < l)
theorem bl_t {law k : Nat} {S P : Nat → Nat} {s x l g : Nat} : bl law k S P s x l g = true ↔ 1 ≤ g ∧ l ≤ due k S P s g ∧ hasL law S x k g < l := by simp [bl]
theorem breach18_eq {cnt : Int32} {sets papers : Nat → Int32} {k : Nat} {S P : Nat → Nat} (h : hp cnt sets papers k S P) (h6 : hp6 k P) {law x l s : Nat} (hlaw : law < 3) (hx : x < 256) (hl : l ≤ 4) (hs : s ≤ 4) (kk : Int32 → Option (Int32 × Int32)) (bg : Int32) : lp_X11_breachOf_18 (nI law) (nI x) (nI l) cnt (nI s) papers sets kk FU (1 : Int32) bg = match fbk (bl law k S P s x l) (2 ^ k) with
    | some g => some (nI l, nI g)
    | none => kk bg := by
  have hk := h6.1
  have h64 := pow_le6 k (by omega)
  have h2k : 1 ≤ 2 ^ k := Nat.one_le_two_pow
  have hc := h.1
  have hsh : (1 : Int32) <<< (cnt &&& 31) = nI (2 ^ k) := by rw [hc]; exact pb_shl (by omega)
  have h1 := upp (k := 2 ^ k) (fun n g => fbk (bl law k S P s x l) g = none → lp_X11_breachOf_18 (nI law) (nI x) (nI l) cnt (nI s) papers sets kk n (nI g) bg = match fbk (bl law k S P s x l) (2 ^ k) with
    | some g => some (nI l, nI g)
    | none => kk bg) (by omega) h2k
    (fun n a => by rw [lp_X11_breachOf_18, hsh, if_pos ((le256 (by omega) (by omega)).mpr (Nat.le_refl _)), a])
    (fun n g hg1 hg ih a => by
      have k0 : 0 < k := by
        rcases Nat.eq_zero_or_pos k with z | z
        · subst z
          rw [Nat.pow_zero] at hg
          omega
        · exact z
      have hT := hp6_T h6 k0
      rw [lp_X11_breachOf_18, hsh, if_neg (by rw [le256 (by omega) (by omega)]; omega), isOwed_eq h hT (by omega) hl hs, ob_sb, lacks_eq h hlaw hx (by omega) hl, ob_sb, nI_1]
      by_cases q : l ≤ due k S P s g
      · rw [if_pos q, if_neg (by decide)]
        by_cases q2 : hasL law S x k g < l
        · rw [if_pos q2, if_neg (by decide), fbk_first (b := g) hg (bl_t.mpr ⟨hg1, q, q2⟩) (fun c hc z => by
            have : fbk (bl law k S P s x l) g ≠ none := by
              obtain ⟨c0, c1, c2, c3⟩ := fb_first (p := fun i => bl law k S P s x l i = true) ⟨c, hc, z⟩
              rw [fbk_first c1 c2 c3]
              intro y
              cases y
            exact this a)]
        · rw [if_neg q2, if_pos rfl]
          exact ih (by rw [fbk_s, a]; dsimp only; rw [if_neg (fun z => q2 (bl_t.mp z).2.2)])
      · rw [if_neg q, if_pos rfl]
        exact ih (by rw [fbk_s, a]; dsimp only; rw [if_neg (fun z => q (bl_t.mp z).2.1)]))
  exact h1 (fbk_none (fun c hc z => by have := (bl_t.mp z).1; omega))
theorem breachOf_eq {cnt : Int32} {sets papers : Nat → Int32} {k : Nat} {S P : Nat → Nat} (h : hp cnt sets papers k S P) (h6 : hp6 k P) {law x s : Nat} (hlaw : law < 3) (hx : x < 256) (hs : s ≤ 4) (bg : Int32) : f_X11_breachOf (nI law) (nI x) cnt (nI s) bg papers sets = some (szE (hasL law S x k) (brc law k S P s x), encN (brc law k S P s x)) := by
  have hk := h6.1
  have h64 := pow_le6 k (by omega)
  have l0 : (nI law = 0) ↔ law = 0 := nI_eq (b := 0) (by omega) (by decide)
  -- the rounds below the least l
  have lim : ∃ m, m = (if law = 0 then 1 else 4) := ⟨_, rfl⟩
  obtain ⟨m, hm⟩ := lim
  have hm4 : m ≤ 4 := by rw [hm]; split <;> omega
  have step : ∀ n l, 1 ≤ l → l ≤ m → lp_X11_breachOf_2 (nI law) (nI x) cnt (nI s) papers sets (fun _ => some ((-6 : Int32), (-6 : Int32))) (n + 1) (nI l) bg = match fbk (bl law k S P s x l) (2 ^ k) with
    | some g => some (nI l, nI g)
    | none => lp_X11_breachOf_2 (nI law) (nI x) cnt (nI s) papers sets (fun _ => some ((-6 : Int32), (-6 : Int32))) n (nI (l + 1)) bg := fun n l hl1 hl => by
    rw [lp_X11_breachOf_2, breach18_eq h h6 hlaw hx (by omega) hs, nI_1]
    by_cases q : law = 0
    · rw [if_pos q] at hm
      rw [if_pos (l0.mpr q), if_neg (by rw [show (1 : Int32) = nI 1 from rfl, nI_ltI (by omega) (by omega)]; omega)]
    · rw [if_neg q] at hm
      rw [if_neg (fun z => q (l0.mp z)), if_neg (by rw [show (4 : Int32) = nI 4 from rfl, nI_ltI (by omega) (by omega)]; omega)]
  have stop : ∀ n, lp_X11_breachOf_2 (nI law) (nI x) cnt (nI s) papers sets (fun _ => some ((-6 : Int32), (-6 : Int32))) (n + 1) (nI (m + 1)) bg = some ((-6 : Int32), (-6 : Int32)) := fun n => by
    rw [lp_X11_breachOf_2]
    by_cases q : law = 0
    · rw [if_pos q] at hm
      rw [if_pos (l0.mpr q), if_pos (by rw [hm]; decide)]
    · rw [if_neg q] at hm
      rw [if_neg (fun z => q (l0.mp z)), if_pos (by rw [hm]; decide)]
  have wr : ∀ l g, 1 ≤ l → l ≤ m → bl law k S P s x l g = true → wrB law k S P s x g = true := fun l g hl1 hl hb => by
    obtain ⟨b0, b1, b2⟩ := bl_t.mp hb
    refine wrB_t.mpr ⟨?_, by omega⟩
    by_cases q : law = 0
    · rw [if_pos q] at hm
      exact Or.inr (by omega)
    · exact Or.inl q
  show lp_X11_breachOf_2 (nI law) (nI x) cnt (nI s) papers sets (fun _ => some ((-6 : Int32), (-6 : Int32))) FU (nI 1) bg = _
  cases e : brc law k S P s x with
  | none =>
    have hno := amq_none e
    have go : ∀ d l n, 1 ≤ l → l + d = m + 1 → d < n → lp_X11_breachOf_2 (nI law) (nI x) cnt (nI s) papers sets (fun _ => some ((-6 : Int32), (-6 : Int32))) n (nI l) bg = some ((-6 : Int32), (-6 : Int32)) := by
      intro d
      induction d with
      | zero =>
        intro l n h1 h2 h3
        obtain ⟨n, rfl⟩ : ∃ z, n = z + 1 := ⟨n - 1, by omega⟩
        obtain rfl : l = m + 1 := by omega
        exact stop n
      | succ d ih =>
        intro l n h1 h2 h3
        obtain ⟨n, rfl⟩ : ∃ z, n = z + 1 := ⟨n - 1, by omega⟩
        rw [step n l h1 (by omega), fbk_none (fun c hc z => hno c hc (wr l c h1 (by omega) z))]
        exact ih (l + 1) n (by omega) (by omega) (by omega)
    exact go m 1 FU (by omega) (by omega) (by unfold FU; omega)
  | some b =>
    obtain ⟨hb, hwb⟩ := amq_in e
    obtain ⟨m1, m2⟩ := amq_min e
    obtain ⟨w1, w2⟩ := wrB_t.mp hwb
    have k0 : 0 < k := by
      rcases Nat.eq_zero_or_pos k with z | z
      · subst z
        have hb0 : b = 0 := by rw [Nat.pow_zero] at hb; omega
        have : due 0 S P s b = 0 := by
          unfold due
          rw [show gPp P 0 b = 0 from rfl, Nat.zero_mul, Nat.zero_div]
          omega
        omega
      · exact z
    have hT := hp6_T h6 k0
    have hdl := due_le (S := S) (s := s) (g := b) hT
    have hb1 : 1 ≤ b := by
      rcases Nat.eq_zero_or_pos b with z | z
      · subst z
        have : due k S P s 0 = 0 := by
          have z1 : ∀ n, gPp P n 0 = 0 := by
            intro n
            induction n with
            | zero => rfl
            | succ n ih => rw [gPp, fd_s, if_neg (by unfold bt; simp)]; exact ih
          unfold due
          rw [z1, Nat.zero_mul, Nat.zero_div]
          omega
        omega
      · exact z
    have hlm : hasL law S x k b + 1 ≤ m := by
      by_cases q : law = 0
      · rw [if_pos q] at hm
        rcases w1 with z | z
        · exact absurd q z
        · omega
      · rw [if_neg q] at hm
        omega
    have go : ∀ d l n, 1 ≤ l → l + d = hasL law S x k b + 1 → d < n → lp_X11_breachOf_2 (nI law) (nI x) cnt (nI s) papers sets (fun _ => some ((-6 : Int32), (-6 : Int32))) n (nI l) bg = some (nI (hasL law S x k b + 1), nI b) := by
      intro d
      induction d with
      | zero =>
        intro l n h1 h2 h3
        obtain ⟨n, rfl⟩ : ∃ z, n = z + 1 := ⟨n - 1, by omega⟩
        obtain rfl : l = hasL law S x k b + 1 := by omega
        rw [step n _ h1 hlm, fbk_first (b := b) hb (bl_t.mpr ⟨hb1, by omega, by omega⟩) (fun c hc z => by
          have hw := wr _ c h1 hlm z
          have := m2 c hc hw
          have := (bl_t.mp z).2.2
          omega)]
      | succ d ih =>
        intro l n h1 h2 h3
        obtain ⟨n, rfl⟩ : ∃ z, n = z + 1 := ⟨n - 1, by omega⟩
        rw [step n l h1 (by omega), fbk_none (fun c hc z => by
          have hw := wr l c h1 (by omega) z
          have := m1 c hc hw
          have := (bl_t.mp z).2.2
          omega)]
        exact ih (l + 1) n (by omega) (by omega) (by omega)
    have hle := hasL_le law S x k b
    exact go (hasL law S x k b) 1 FU (by omega) (by omega) (by unfold FU; omega)
