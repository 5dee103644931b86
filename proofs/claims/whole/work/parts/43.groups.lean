/-! groups of heaps -/
theorem upp {k : Nat} (Pr : Nat → Nat → Prop) (hk : k < 300) (h1 : 1 ≤ k) (h0 : ∀ n, Pr (n + 1) k) (hs : ∀ n i, 1 ≤ i → i < k → Pr n (i + 1) → Pr (n + 1) i) : Pr FU 1 :=
  up_ind (Pr := fun n i => 1 ≤ i → Pr n i) (fun n _ => h0 n) (fun n i hi ih h => hs n i h hi (ih (by omega))) FU 1 h1 (by unfold FU; omega) (Nat.le_refl 1)
def fd (op : Nat → Nat → Nat) (e : Nat) (f : Nat → Nat) (g : Nat) : Nat → Nat
  | 0 => e
  | j + 1 => if bt g j = 1 then op (fd op e f g j) (f j) else fd op e f g j
theorem fd_s (op : Nat → Nat → Nat) (e : Nat) (f : Nat → Nat) (g j : Nat) : fd op e f g (j + 1) = if bt g j = 1 then op (fd op e f g j) (f j) else fd op e f g j := rfl
theorem fd_cong {op : Nat → Nat → Nat} {e : Nat} {f : Nat → Nat} {g g2 : Nat} : ∀ {n : Nat}, (∀ j, j < n → bt g j = bt g2 j) → fd op e f g n = fd op e f g2 n
  | 0, _ => rfl
  | n + 1, h => by rw [fd_s, fd_s, fd_cong (fun j hj => h j (by omega)), h n (by omega)]
/-- one heap out of the group -/
theorem fd_out {op : Nat → Nat → Nat} (hop : ∀ a b c, op (op a b) c = op (op a c) b) {e : Nat} {f : Nat → Nat} {g g2 h : Nat} (h1 : bt g h = 1) (h2 : bt g2 h = 0) : ∀ {n : Nat}, h < n → (∀ j, j < n → ¬ j = h → bt g j = bt g2 j) → fd op e f g n = op (fd op e f g2 n) (f h)
  | 0, hn, _ => by omega
  | n + 1, hn, hs => by
    rw [fd_s, fd_s]
    by_cases q : n = h
    · subst q
      rw [if_pos h1, if_neg (by omega), fd_cong (fun j hj => hs j (by omega) (by omega))]
    · have ih := fd_out hop (e := e) (f := f) h1 h2 (n := n) (by omega) (fun j hj hq => hs j (by omega) hq)
      rw [ih, hs n (by omega) q]
      split
      · rw [hop]
      · rfl
/-- the lowest heap of a group, and the group without it -/
def lb (g : Nat) : Nat := pc8 ((g &&& (64 - g)) - 1)
theorem low_eq : ∀ g, g < 64 → 1 ≤ g → f_X2_lowestHeap (nI g) = some (nI (lb g)) ∧ lb g < 6 ∧ bt g (lb g) = 1 := by decide +kernel
theorem rest_eq : ∀ g, g < 64 → 1 ≤ g → nI g &&& (nI g - (1 : Int32)) = nI (g &&& (g - 1)) ∧ (g &&& (g - 1)) < g ∧ bt (g &&& (g - 1)) (lb g) = 0 ∧ ∀ j, j < 6 → ¬ j = lb g → bt g j = bt (g &&& (g - 1)) j := by decide +kernel
theorem bt_big : ∀ k, k < 7 → ∀ g, g < 2 ^ k → ∀ j, j < 6 → bt g j = 1 → j < k := by decide +kernel
abbrev gCm (S : Nat → Nat) (k g : Nat) : Nat := fd (fun a b => a &&& b) 255 S g k
abbrev gAn (S : Nat → Nat) (k g : Nat) : Nat := fd (fun a b => a ||| b) 0 S g k
abbrev gPp (P : Nat → Nat) (k g : Nat) : Nat := fd (fun a b => a + b) 0 P g k
abbrev gMx (S : Nat → Nat) (x k g : Nat) : Nat := fd (fun a b => if a < b then b else a) 0 (fun j => pc8 (S j &&& x)) g k
theorem and_r (a b c : Nat) : (a &&& b) &&& c = (a &&& c) &&& b := by rw [Nat.and_assoc, Nat.and_comm b, ← Nat.and_assoc]
theorem or_r (a b c : Nat) : (a ||| b) ||| c = (a ||| c) ||| b := by rw [Nat.or_assoc, Nat.or_comm b, ← Nat.or_assoc]
theorem add_r (a b c : Nat) : (a + b) + c = (a + c) + b := by omega
theorem max_r (a b c : Nat) : (if (if a < b then b else a) < c then c else (if a < b then b else a)) = (if (if a < c then c else a) < b then b else (if a < c then c else a)) := by
  repeat' split
  all_goals omega
theorem gCm_lt {S : Nat → Nat} {k : Nat} (g : Nat) : gCm S k g < 256 := by
  have : ∀ n, gCm S n g < 256 := by
    intro n
    induction n with
    | zero => exact (by decide : (255 : Nat) < 256)
    | succ n ih =>
      rw [gCm, fd_s]
      split
      · exact and_lt8 ih
      · exact ih
  exact this k
theorem or_lt8 : ∀ a, a < 256 → ∀ b, b < 256 → a ||| b < 256 := fun a ha b hb => Nat.or_lt_two_pow (n := 8) ha hb
theorem gAn_lt {S : Nat → Nat} {k : Nat} (hS : ∀ j, j < k → S j < 256) (g : Nat) : gAn S k g < 256 := by
  have : ∀ n, n ≤ k → gAn S n g < 256 := by
    intro n
    induction n with
    | zero => intro _; exact (by decide : (0 : Nat) < 256)
    | succ n ih =>
      intro hn
      rw [gAn, fd_s]
      split
      · exact or_lt8 _ (ih (by omega)) _ (hS n (by omega))
      · exact ih (by omega)
  exact this k (Nat.le_refl k)
theorem gPp_le (P : Nat → Nat) (g : Nat) : ∀ k, gPp P k g ≤ sm P k
  | 0 => Nat.le_refl 0
  | k + 1 => by
    have h : fd (fun a b => a + b) 0 P g k ≤ sm P k := gPp_le P g k
    show fd (fun a b => a + b) 0 P g (k + 1) ≤ _
    rw [fd_s, sm_s]
    split <;> omega
theorem gMx_le (S : Nat → Nat) (x g : Nat) : ∀ k, gMx S x k g ≤ 8
  | 0 => Nat.zero_le 8
  | k + 1 => by
    have h : fd (fun a b => if a < b then b else a) 0 (fun j => pc8 (S j &&& x)) g k ≤ 8 := gMx_le S x g k
    have := pc8_le (S k &&& x)
    show fd (fun a b => if a < b then b else a) 0 (fun j => pc8 (S j &&& x)) g (k + 1) ≤ 8
    rw [fd_s]
    repeat' split
    all_goals omega
/-- how many seats a group is owed, at most -/
def due (k : Nat) (S P : Nat → Nat) (s g : Nat) : Nat := min (pc8 (gCm S k g)) (gPp P k g * s / sm P k)
theorem due_le {k : Nat} {S P : Nat → Nat} {s g : Nat} (hT : 0 < sm P k) : due k S P s g ≤ s := by
  unfold due
  have h1 := gPp_le P g k
  have h2 : gPp P k g * s / sm P k ≤ s := by
    have h3 := Nat.mul_le_mul_right s h1
    rw [Nat.mul_comm (sm P k)] at h3
    exact Nat.div_le_of_le_mul (by rw [Nat.mul_comm (sm P k)]; exact h3)
  omega
/-- OWED -/
theorem owed_iff {k : Nat} {S P : Nat → Nat} {s g l : Nat} (hT : 0 < sm P k) : l ≤ due k S P s g ↔ (l ≤ pc8 (gCm S k g) ∧ l * sm P k ≤ gPp P k g * s) := by
  unfold due
  rw [← Nat.le_div_iff_mul_le hT]
  omega
theorem pow_le6 : ∀ k, k < 7 → 2 ^ k ≤ 64 := by decide +kernel
/-- heaps that are no more than six, each with papers -/
def hp6 (k : Nat) (P : Nat → Nat) : Prop := k ≤ 6 ∧ ∀ j, j < k → 1 ≤ P j
theorem hp6_T {k : Nat} {P : Nat → Nat} (h : hp6 k P) (h0 : 0 < k) : 0 < sm P k := by
  have := sm_one P h0
  have := h.2 0 h0
  omega
/-- the class's groups -/
def grp (cm an du : Nat → Int32) (k : Nat) (S P : Nat → Nat) (s : Nat) (G : Nat) : Prop := ∀ g, g < G → (1 ≤ g → an g = nI (gAn S k g) ∧ du g = nI (due k S P s g)) ∧ cm g = nI (gCm S k g)
theorem gather62_eq {cnt : Int32} {sets papers : Nat → Int32} {k : Nat} {S P : Nat → Nat} (h : hp cnt sets papers k S P) (h6 : hp6 k P) (h0 : 0 < k) {s : Nat} (hs : s ≤ 4) {an cm du pp : Nat → Int32} (hcm : cm 0 = nI 255) (hpp : pp 0 = 0) (han : an 0 = 0) : ∃ an2 cm2 du2 pp2, lp_X2_gather_62 (nI s) (nI (sm P k)) (nI (2 ^ k)) papers sets FU (1 : Int32) an cm du pp = some (an2, cm2, du2, pp2) ∧ (∀ g, 1 ≤ g → g < 2 ^ k → an2 g = nI (gAn S k g) ∧ du2 g = nI (due k S P s g)) ∧ an2 0 = 0 ∧ pp2 0 = 0 := by
  have hT := hp6_T h6 h0
  have hP := h.2.2.2
  have h64 := pow_le6 k (by have := h6.1; omega)
  have h2k : 1 ≤ 2 ^ k := Nat.one_le_two_pow
  obtain ⟨rfl, hk, hh, -⟩ := h
  have hk6 := h6.1
  have h1 := upp (k := 2 ^ k) (fun n g => ∀ an cm du pp : Nat → Int32, (∀ y, y < g → an y = nI (gAn S k y) ∧ cm y = nI (gCm S k y) ∧ pp y = nI (gPp P k y)) → (∀ y, 1 ≤ y → y < g → du y = nI (due k S P s y)) → ∃ an2 cm2 du2 pp2, lp_X2_gather_62 (nI s) (nI (sm P k)) (nI (2 ^ k)) papers sets n (nI g) an cm du pp = some (an2, cm2, du2, pp2) ∧ (∀ g, 1 ≤ g → g < 2 ^ k → an2 g = nI (gAn S k g) ∧ du2 g = nI (due k S P s g)) ∧ an2 0 = 0 ∧ pp2 0 = 0) (by omega) (by omega)
    (fun n an cm du pp a b => by
      refine ⟨an, cm, du, pp, by rw [lp_X2_gather_62, if_pos ((le256 (by omega) (by omega)).mpr (Nat.le_refl _))], fun g hg1 hg => ⟨(a g hg).1, b g hg1 hg⟩, ?_, ?_⟩
      · rw [(a 0 (by omega)).1]
        have : gAn S k 0 = 0 := by
          have : ∀ n, gAn S n 0 = 0 := by
            intro n
            induction n with
            | zero => rfl
            | succ n ih => rw [gAn, fd_s, if_neg (by unfold bt; simp)]; exact ih
          exact this k
        rw [this]
        rfl
      · rw [(a 0 (by omega)).2.2]
        have : gPp P k 0 = 0 := by
          have : ∀ n, gPp P n 0 = 0 := by
            intro n
            induction n with
            | zero => rfl
            | succ n ih => rw [gPp, fd_s, if_neg (by unfold bt; simp)]; exact ih
          exact this k
        rw [this]
        rfl)
    (fun n g hg1 hg ih an cm du pp a b => by
      · obtain ⟨l1, l2, l3⟩ := low_eq g (by omega) hg1
        obtain ⟨r1, r2, r3, r4⟩ := rest_eq g (by omega) hg1
        have hlk := bt_big k (by omega) g hg _ l2 l3
        obtain ⟨e1, e2, e3⟩ := hh _ hlk
        obtain ⟨a1, a2, a3⟩ := a _ r2
        have f1 : gAn S k g = gAn S k (g &&& (g - 1)) ||| S (lb g) := fd_out or_r l3 r3 hlk (fun j hj => r4 j (by omega))
        have f2 : gCm S k g = gCm S k (g &&& (g - 1)) &&& S (lb g) := fd_out and_r l3 r3 hlk (fun j hj => r4 j (by omega))
        have f3 : gPp P k g = gPp P k (g &&& (g - 1)) + P (lb g) := fd_out add_r l3 r3 hlk (fun j hj => r4 j (by omega))
        have hcl := gCm_lt (S := S) (k := k) g
        have hpl := gPp_le P g k
        have hpc := pc8_le (gCm S k g)
        have hmul : gPp P k g * s ≤ 600 * 4 := Nat.mul_le_mul (by omega) hs
        have hdl : gPp P k g * s / sm P k ≤ gPp P k g * s := Nat.div_le_self _ _
        rw [lp_X2_gather_62, if_neg (by rw [le256 (by omega) (by omega)]; omega), l1, ob_sb, r1]
        simp (disch := omega) only [ob_inN, nI_clamp, eq_self, if_true, a1, a2, a3, e1, e3, fa_and, fa_or, nI_add, pk_us, ← f1, ← f2, ← f3, nI_1]
        rw [if_neg (nI_nle hT (by omega)), if_neg (nI_ne0 hT (by omega)), bitCount_8 _ hcl, ob_let_eq, ob_sb, pk_mul, pk_div (by omega) hT (by omega)]
        have hdu : (if nI (gPp P k g * s / sm P k) < nI (pc8 (gCm S k g)) then nI (gPp P k g * s / sm P k) else nI (pc8 (gCm S k g))) = nI (due k S P s g) := by
          unfold due
          by_cases q : gPp P k g * s / sm P k < pc8 (gCm S k g)
          · rw [if_pos (by rw [nI_ltI (by omega) (by omega)]; exact q), show min (pc8 (gCm S k g)) (gPp P k g * s / sm P k) = gPp P k g * s / sm P k by omega]
          · rw [if_neg (by rw [nI_ltI (by omega) (by omega)]; exact q), show min (pc8 (gCm S k g)) (gPp P k g * s / sm P k) = pc8 (gCm S k g) by omega]
        rw [hdu]
        refine ih _ _ _ _ (fun y hy => ?_) (fun y hy1 hy => ?_)
        · by_cases q : y = g
          · subst q
            rw [pk_us, pk_us, pk_us]
            exact ⟨rfl, rfl, rfl⟩
          · rw [pk_un q, pk_un q, pk_un q]
            exact a y (by omega)
        · by_cases q : y = g
          · subst q
            rw [pk_us]
          · rw [pk_un q]
            exact b y hy1 (by omega))
  refine h1 an cm du pp (fun y hy => ?_) (fun y hy1 hy => by omega)
  obtain rfl : y = 0 := by omega
  have z1 : ∀ (op : Nat → Nat → Nat) (e : Nat) (f : Nat → Nat) n, fd op e f 0 n = e := by
    intro op e f n
    induction n with
    | zero => rfl
    | succ n ih => rw [fd_s, if_neg (by unfold bt; simp)]; exact ih
  rw [gAn, gCm, gPp, z1, z1, z1]
  exact ⟨han, hcm, hpp⟩
theorem g32_eq (y2 y3 : Int32) (hsets v : Nat → Int32) : ∃ v2, lp_X2_gather_32 y2 y3 hsets FU (0 : Int32) v = some v2 ∧ ∀ j, j < 6 → v2 j = hsets j := by
  have h1 := up0 (k := 6) (fun n i => ∀ v : Nat → Int32, (∀ j, j < i → v j = hsets j) → ∃ v2, lp_X2_gather_32 y2 y3 hsets n (nI i) v = some v2 ∧ ∀ j, j < 6 → v2 j = hsets j) (by omega)
    (fun n v a => ⟨v, by rw [lp_X2_gather_32, if_pos (by decide)], a⟩)
    (fun n i hi ih v a => by
      rw [lp_X2_gather_32, if_neg (by rw [show (6 : Int32) = nI 6 from rfl, nI_leI (by omega) (by omega)]; omega)]
      simp (disch := omega) only [ob_inN, nI_clamp, eq_self, if_true, nI_1]
      refine ih _ (fun j hj => ?_)
      by_cases q : j = i
      · subst q
        rw [pk_us]
      · rw [pk_un q]
        exact a j (by omega))
  exact h1 v (fun j hj => by omega)
theorem ggather_eq {cnt : Int32} {sets papers : Nat → Int32} {k : Nat} {S P : Nat → Nat} (h : hp cnt sets papers k S P) (h6 : hp6 k P) {s : Nat} (hs : s ≤ 4) (c0 : Int32) {an cm du pp : Nat → Int32} (v : Nat → Int32) (hpp : pp 0 = 0) (han : an 0 = 0) : ∃ an2 cm2 du2 pp2 v2, f_X2_gather (nI s) cnt c0 papers sets an cm du pp v = some (nI (2 ^ k), an2, cm2, du2, pp2, v2) ∧ (∀ g, 1 ≤ g → g < 2 ^ k → an2 g = nI (gAn S k g) ∧ du2 g = nI (due k S P s g)) ∧ an2 0 = 0 ∧ pp2 0 = 0 ∧ ∀ j, j < k → v2 j = nI (S j) := by
  obtain ⟨v2, e1, e2⟩ := g32_eq (nI s) (nI (sm P k)) sets v
  have hk6 := h6.1
  have hmin : (if (6 : Int32) < cnt then (6 : Int32) else cnt) = nI k := by
    rw [h.1, if_neg (by rw [show (6 : Int32) = nI 6 from rfl, nI_ltI (by omega) (by omega)]; omega)]
  have hv : ∀ j, j < k → v2 j = nI (S j) := fun j hj => by rw [e2 j (by omega), (h.2.2.1 j hj).1]
  unfold f_X2_gather
  rw [total_eq h, ob_sb, e1, ob_sb, hmin, pb_shl (by omega)]
  rcases Nat.eq_zero_or_pos k with k0 | k0
  · subst k0
    refine ⟨an, upd cm 0 (nI 255), du, pp, v2, ?_, fun g hg1 hg => by omega, han, hpp, hv⟩
    rw [show lp_X2_gather_62 (nI s) (nI (sm P 0)) (nI (2 ^ 0)) papers sets FU (1 : Int32) an (upd cm (0 : Int32).toNatClampNeg (255 : Int32)) du pp = some (an, upd cm 0 (nI 255), du, pp) from by
      show lp_X2_gather_62 (nI s) (nI (sm P 0)) (nI (2 ^ 0)) papers sets (299 + 1) (1 : Int32) an (upd cm (0 : Int32).toNatClampNeg (255 : Int32)) du pp = _
      rw [lp_X2_gather_62, if_pos (by decide)]
      rfl]
    rfl
  · obtain ⟨an2, cm2, du2, pp2, c1, c2, c3, c4⟩ := gather62_eq h h6 k0 hs (an := an) (cm := upd cm (0 : Int32).toNatClampNeg (255 : Int32)) (du := du) (pp := pp) rfl hpp han
    exact ⟨an2, cm2, du2, pp2, v2, by rw [c1]; rfl, c2, c3, c4, hv⟩
