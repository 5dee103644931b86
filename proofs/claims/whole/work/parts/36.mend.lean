/-! MEND: swaps -/
def sw (x g c : Nat) : Nat := (x &&& (255 ^^^ 2 ^ g)) ||| 2 ^ c
theorem sw_eq : ∀ x, x < 256 → ∀ g, g < 8 → ∀ c, c < 8 → (nI x &&& (((1 : Int32) <<< (nI g &&& 31)) ^^^ (-1 : Int32))) ||| ((1 : Int32) <<< (nI c &&& 31)) = nI (sw x g c) := by decide +kernel
theorem sw_ok : ∀ x, x < 256 → ∀ g, g < 8 → ∀ c, c < 8 → sw x g c < 256 ∧ (bt x g = 1 → bt x c = 0 → pc8 (sw x g c) = pc8 x) := by decide +kernel
/-- the best of the swaps of g for one below n, from b on -/
def b1 (v : Nat → Nat) (x g b : Nat) : Nat → Nat
  | 0 => b
  | n + 1 => if bt x n = 0 ∧ v (b1 v x g b n) < v (sw x g n) then sw x g n else b1 v x g b n
theorem b1_s (v : Nat → Nat) (x g b n : Nat) : b1 v x g b (n + 1) = if bt x n = 0 ∧ v (b1 v x g b n) < v (sw x g n) then sw x g n else b1 v x g b n := rfl
def b2 (v : Nat → Nat) (x : Nat) : Nat → Nat
  | 0 => x
  | n + 1 => if bt x n = 1 then b1 v x n (b2 v x n) 8 else b2 v x n
theorem b2_s (v : Nat → Nat) (x n : Nat) : b2 v x (n + 1) = if bt x n = 1 then b1 v x n (b2 v x n) 8 else b2 v x n := rfl
theorem b1_ok {v : Nat → Nat} {x g b : Nat} (hx : x < 256) (hg : g < 8) (hg1 : bt x g = 1) (hb : b < 256 ∧ pc8 b = pc8 x) : ∀ n, n ≤ 8 → (b1 v x g b n < 256 ∧ pc8 (b1 v x g b n) = pc8 x) ∧ (b1 v x g b n = b ∨ v b < v (b1 v x g b n))
  | 0, _ => ⟨hb, Or.inl rfl⟩
  | n + 1, hn => by
    obtain ⟨h1, h2⟩ := b1_ok (v := v) hx hg hg1 hb n (by omega)
    rw [b1_s]
    by_cases q : bt x n = 0 ∧ v (b1 v x g b n) < v (sw x g n)
    · rw [if_pos q]
      obtain ⟨s1, s2⟩ := sw_ok x hx g hg n (by omega)
      refine ⟨⟨s1, s2 hg1 q.1⟩, Or.inr ?_⟩
      rcases h2 with h | h
      · rw [← h]; exact q.2
      · omega
    · rw [if_neg q]
      exact ⟨h1, h2⟩
theorem b2_ok {v : Nat → Nat} {x : Nat} (hx : x < 256) : ∀ n, n ≤ 8 → (b2 v x n < 256 ∧ pc8 (b2 v x n) = pc8 x) ∧ (b2 v x n = x ∨ v x < v (b2 v x n))
  | 0, _ => ⟨⟨hx, rfl⟩, Or.inl rfl⟩
  | n + 1, hn => by
    obtain ⟨h1, h2⟩ := b2_ok (v := v) hx n (by omega)
    rw [b2_s]
    by_cases q : bt x n = 1
    · rw [if_pos q]
      obtain ⟨g1, g2⟩ := b1_ok (v := v) hx (by omega) q h1 8 (Nat.le_refl 8)
      refine ⟨g1, ?_⟩
      rcases g2 with g | g
      · rw [g]; exact h2
      · rcases h2 with h | h
        · rw [h] at g ⊢
          exact Or.inr g
        · exact Or.inr (by omega)
    · rw [if_neg q]
      exact ⟨h1, h2⟩
abbrev bs (v : Nat → Nat) (x : Nat) : Nat := b2 v x 8
/-- swap after swap -/
def itr (f : Nat → Nat) (x : Nat) : Nat → Nat
  | 0 => x
  | n + 1 => f (itr f x n)
theorem itr_stay {f : Nat → Nat} {x i : Nat} (h : f (itr f x i) = itr f x i) : ∀ n, itr f x (i + n) = itr f x i
  | 0 => rfl
  | n + 1 => by
    rw [← Nat.add_assoc]
    show f (itr f x (i + n)) = _
    rw [itr_stay h n, h]
theorem itr_ok {v : Nat → Nat} {x : Nat} (hx : x < 256) : ∀ n, itr (bs v) x n < 256 ∧ pc8 (itr (bs v) x n) = pc8 x
  | 0 => ⟨hx, rfl⟩
  | n + 1 => by
    obtain ⟨h1, h2⟩ := itr_ok (v := v) hx n
    obtain ⟨⟨g1, g2⟩, -⟩ := b2_ok (v := v) h1 8 (Nat.le_refl 8)
    exact ⟨g1, g2.trans h2⟩
/-- how many below n have s bits -/
def cn (s n : Nat) : Nat := sm (fun y => if pc8 y = s then 1 else 0) n
theorem cn_70 : ∀ s, s < 9 → cn s 256 ≤ 70 := by decide +kernel
theorem cn_lt {s x y : Nat} (h : x < y) (hx : pc8 x = s) : cn s x < cn s y := by
  have h1 : cn s (x + 1) = cn s x + 1 := by
    unfold cn
    rw [sm_s, if_pos hx]
  have h2 : cn s (x + 1) ≤ cn s y := sm_mono _ h
  omega
theorem itr_fix {v : Nat → Nat} {x : Nat} (hx : x < 256) : ∃ i, i < 70 ∧ bs v (itr (bs v) x i) = itr (bs v) x i := by
  rcases Classical.em (∃ i, i < 70 ∧ bs v (itr (bs v) x i) = itr (bs v) x i) with q | q
  · exact q
  · exfalso
    have hne : ∀ i, i < 70 → v (itr (bs v) x i) < v (itr (bs v) x (i + 1)) := fun i hi => by
      obtain ⟨h1, -⟩ := itr_ok (v := v) hx i
      obtain ⟨-, g⟩ := b2_ok (v := v) h1 8 (Nat.le_refl 8)
      rcases g with g | g
      · exact absurd ⟨i, hi, g⟩ q
      · exact g
    have hmono : ∀ j, j ≤ 70 → ∀ i, i < j → v (itr (bs v) x i) < v (itr (bs v) x j) := by
      intro j
      induction j with
      | zero => intro _ i hi; omega
      | succ j ih =>
        intro hj i hi
        have := hne j (by omega)
        rcases Nat.lt_or_ge i j with g | g
        · have := ih (by omega) i g
          omega
        · obtain rfl : i = j := by omega
          exact this
    have hpc : pc8 x < 9 := by have := pc8_le x; omega
    have hh := fb_holes 70 71 (fun i => cn (pc8 x) (itr (bs v) x i)) (fun i hi => by
      obtain ⟨h1, h2⟩ := itr_ok (v := v) hx i
      have h3 := cn_lt h1 h2
      have h4 := cn_70 _ hpc
      omega) (fun i j hij hj he => by
      obtain ⟨-, h2⟩ := itr_ok (v := v) hx i
      obtain ⟨-, h4⟩ := itr_ok (v := v) hx j
      have hv := hmono j (by omega) i hij
      rcases Nat.lt_or_ge (itr (bs v) x i) (itr (bs v) x j) with g | g
      · have := cn_lt g h2
        omega
      · rcases Nat.lt_or_ge (itr (bs v) x j) (itr (bs v) x i) with g2 | g2
        · have := cn_lt g2 h4
          omega
        · have e : itr (bs v) x i = itr (bs v) x j := by omega
          rw [e] at hv
          omega)
    omega
section SWAPS
variable {cnt : Int32} {sets papers : Nat → Int32} {k : Nat} {S P : Nat → Nat}
theorem swap21_eq (h : hp cnt sets papers k S P) {tg : Nat → Int32} {w : Nat → Nat} (ht : tgs tg w) (hw : ∀ n, n < 4 → w n ≤ 60) {x g b : Nat} (hx : x < 256) (hg : g < 8) (hb : b < 256) : lp_X8_bestSwap_21 (nI x) (nI g) cnt papers sets tg FU (nI b) (nI (wor k S P w b)) (0 : Int32) = some (nI (if bt x g = 1 then b1 (wor k S P w) x g b 8 else b), nI (wor k S P w (if bt x g = 1 then b1 (wor k S P w) x g b 8 else b))) := by
  have hW : ∀ y, wor k S P w y < 2 ^ 31 := fun y => by
    have := wor_le (S := S) hw h.2.2.2 y
    omega
  rcases bt_01 x g with q | q
  · rw [if_neg (show ¬ bt x g = 1 by omega)]
    have h1 := up0 (k := 8) (fun n i => lp_X8_bestSwap_21 (nI x) (nI g) cnt papers sets tg n (nI b) (nI (wor k S P w b)) (nI i) = some (nI b, nI (wor k S P w b))) (by omega)
      (fun n => by rw [lp_X8_bestSwap_21, if_pos (by decide)])
      (fun n i hi ih => by
        rw [lp_X8_bestSwap_21, if_neg (by rw [le8 (by omega)]; omega), pb_bit (by omega) (by omega), nI_1, q, if_pos (by decide)]
        exact ih)
    exact h1
  · rw [if_pos q]
    have h1 := up0 (k := 8) (fun n i => lp_X8_bestSwap_21 (nI x) (nI g) cnt papers sets tg n (nI (b1 (wor k S P w) x g b i)) (nI (wor k S P w (b1 (wor k S P w) x g b i))) (nI i) = some (nI (b1 (wor k S P w) x g b 8), nI (wor k S P w (b1 (wor k S P w) x g b 8)))) (by omega)
      (fun n => by rw [lp_X8_bestSwap_21, if_pos (by decide)])
      (fun n i hi ih => by
        rw [lp_X8_bestSwap_21, if_neg (by rw [le8 (by omega)]; omega), pb_bit (by omega) (by omega), pb_bit (by omega) (by omega), nI_1, q, if_neg (by decide)]
        rw [b1_s] at ih
        rcases bt_01 x i with q2 | q2
        · rw [q2, if_neg (by decide), sw_eq x hx g hg i hi, worthOf_eq h ht (sw_ok x hx g hg i hi).1, ob_sb]
          by_cases z : wor k S P w (b1 (wor k S P w) x g b i) < wor k S P w (sw x g i)
          · rw [if_pos ⟨q2, z⟩] at ih
            rw [if_neg (by rw [nI_leI (hW _) (hW _)]; omega)]
            exact ih
          · rw [if_neg (fun y => z y.2)] at ih
            rw [if_pos (by rw [nI_leI (hW _) (hW _)]; omega)]
            exact ih
        · rw [if_neg (fun y => by omega)] at ih
          rw [q2, if_pos (by decide)]
          exact ih)
    exact h1
theorem bestSwap_eq (h : hp cnt sets papers k S P) {tg : Nat → Int32} {w : Nat → Nat} (ht : tgs tg w) (hw : ∀ n, n < 4 → w n ≤ 60) {x : Nat} (hx : x < 256) : f_X8_bestSwap (nI x) cnt papers sets tg = some (nI (bs (wor k S P w) x)) := by
  have h1 := up0 (k := 8) (fun n i => lp_X8_bestSwap_11 (nI x) cnt papers sets tg n (nI (b2 (wor k S P w) x i)) (nI (wor k S P w (b2 (wor k S P w) x i))) (nI i) = some (nI (b2 (wor k S P w) x 8))) (by omega)
    (fun n => by rw [lp_X8_bestSwap_11, if_pos (by decide)])
    (fun n i hi ih => by
      rw [lp_X8_bestSwap_11, if_neg (by rw [le8 (by omega)]; omega), swap21_eq h ht hw hx hi (b2_ok hx i (by omega)).1.1, ob_sb, nI_1]
      rw [b2_s] at ih
      exact ih)
  unfold f_X8_bestSwap
  rw [worthOf_eq h ht hx, ob_sb]
  exact bind_id h1
theorem bySwaps14_eq (h : hp cnt sets papers k S P) {tg : Nat → Int32} {w : Nat → Nat} (ht : tgs tg w) (hw : ∀ n, n < 4 → w n ≤ 60) {x : Nat} (hx : x < 256) : lp_X8_bySwaps_14 cnt papers sets tg FU (nI x) (0 : Int32) = some (nI (itr (bs (wor k S P w)) x 70)) := by
  have h1 := up0 (k := 70) (fun n i => lp_X8_bySwaps_14 cnt papers sets tg n (nI (itr (bs (wor k S P w)) x i)) (nI i) = some (nI (itr (bs (wor k S P w)) x 70))) (by omega)
    (fun n => by rw [lp_X8_bySwaps_14, if_pos (by decide)])
    (fun n i hi ih => by
      obtain ⟨a1, -⟩ := itr_ok (v := wor k S P w) hx i
      obtain ⟨a2, -⟩ := itr_ok (v := wor k S P w) hx (i + 1)
      rw [lp_X8_bySwaps_14, if_neg (by rw [show (70 : Int32) = nI 70 from rfl, nI_leI (by omega) (by omega)]; omega), bestSwap_eq h ht hw a1, ob_sb, nI_1]
      have e : bs (wor k S P w) (itr (bs (wor k S P w)) x i) = itr (bs (wor k S P w)) x (i + 1) := rfl
      by_cases z : bs (wor k S P w) (itr (bs (wor k S P w)) x i) = itr (bs (wor k S P w)) x i
      · rw [if_pos (by rw [z])]
        have := itr_stay z (70 - i)
        rw [show i + (70 - i) = 70 by omega] at this
        rw [this]
      · rw [if_neg (by rw [e, nI_eq (by omega) (by omega)]; rw [e] at z; exact z)]
        exact ih)
  exact h1
theorem mend22_eq (h : hp cnt sets papers k S P) {wo : Nat → Int32} {w : Nat → Nat} (ht : wts wo w) (hw : ∀ n, n < 4 → w n ≤ 60) {x g b : Nat} (hx : x < 256) (hg : g < 8) (hb : b < 256 ∧ pc8 b = pc8 x) : lp_X11_mend_22 (nI g) cnt (nI x) papers sets wo FU (nI b) (0 : Int32) = some (nI (if bt x g = 1 then b1 (wor k S P w) x g b 8 else b)) := by
  have hW : ∀ y, wor k S P w y < 2 ^ 31 := fun y => by
    have := wor_le (S := S) hw h.2.2.2 y
    omega
  rcases bt_01 x g with q | q
  · rw [if_neg (by omega)]
    show lp_X11_mend_22 (nI g) cnt (nI x) papers sets wo (299 + 1) (nI b) (0 : Int32) = some (nI b)
    rw [lp_X11_mend_22, if_neg (by decide), isLeft_eq hx hg, ob_sb, q, if_neg (by decide)]
  · rw [if_pos q]
    have h1 := up0 (k := 8) (fun n i => lp_X11_mend_22 (nI g) cnt (nI x) papers sets wo n (nI (b1 (wor k S P w) x g b i)) (nI i) = some (nI (b1 (wor k S P w) x g b 8))) (by omega)
      (fun n => by rw [lp_X11_mend_22, if_pos (by decide)])
      (fun n i hi ih => by
        obtain ⟨⟨a1, -⟩, -⟩ := b1_ok (v := wor k S P w) hx hg q hb i (by omega)
        rw [lp_X11_mend_22, if_neg (by rw [le8 (by omega)]; omega), isLeft_eq hx hg, ob_sb, isLeft_eq hx hi, ob_sb, nI_1, q, if_pos (by decide)]
        rw [b1_s] at ih
        rcases bt_01 x i with q2 | q2
        · rw [q2, if_neg (by decide), sw_eq x hx g hg i hi, mworthOf_eq h ht (sw_ok x hx g hg i hi).1, ob_sb, mworthOf_eq h ht a1, ob_sb]
          by_cases z : wor k S P w (b1 (wor k S P w) x g b i) < wor k S P w (sw x g i)
          · rw [if_pos ⟨q2, z⟩] at ih
            rw [if_neg (by rw [nI_leI (hW _) (hW _)]; omega)]
            exact ih
          · rw [if_neg (fun y => z y.2)] at ih
            rw [if_pos (by rw [nI_leI (hW _) (hW _)]; omega)]
            exact ih
        · rw [if_neg (fun y => by omega)] at ih
          rw [q2, if_pos (by decide)]
          exact ih)
    exact h1
theorem mend13_eq (h : hp cnt sets papers k S P) {wo : Nat → Int32} {w : Nat → Nat} (ht : wts wo w) (hw : ∀ n, n < 4 → w n ≤ 60) {x : Nat} (hx : x < 256) : lp_X11_mend_13 cnt (nI x) papers sets wo FU (nI x) (0 : Int32) = some (nI (bs (wor k S P w) x)) := by
  have h1 := up0 (k := 8) (fun n i => lp_X11_mend_13 cnt (nI x) papers sets wo n (nI (b2 (wor k S P w) x i)) (nI i) = some (nI (b2 (wor k S P w) x 8))) (by omega)
    (fun n => by rw [lp_X11_mend_13, if_pos (by decide)])
    (fun n i hi ih => by
      rw [lp_X11_mend_13, if_neg (by rw [le8 (by omega)]; omega), mend22_eq h ht hw hx hi (b2_ok hx i (by omega)).1, ob_sb, nI_1]
      rw [b2_s] at ih
      exact ih)
  exact h1
theorem mend_eq (h : hp cnt sets papers k S P) {wo : Nat → Int32} {w : Nat → Nat} (ht : wts wo w) (hw : ∀ n, n < 4 → w n ≤ 60) {x : Nat} (hx : x < 256) : f_X11_mend cnt (nI x) papers sets wo = some (nI (itr (bs (wor k S P w)) x 70)) := by
  obtain ⟨i0, hi0, hf, hmin⟩ := fb_first (p := fun i => bs (wor k S P w) (itr (bs (wor k S P w)) x i) = itr (bs (wor k S P w)) x i) (itr_fix (v := wor k S P w) hx)
  have h1 : ∀ d n j, j + d = i0 → d + 1 < n → lp_X11_mend_2 cnt papers sets wo n (1 : Int32) (nI (itr (bs (wor k S P w)) x j)) = some (nI (itr (bs (wor k S P w)) x 70)) := by
    intro d
    induction d with
    | zero =>
      intro n j hj hn
      obtain ⟨n, rfl⟩ : ∃ m, n = m + 2 := ⟨n - 2, by omega⟩
      obtain rfl : j = i0 := by omega
      obtain ⟨a1, -⟩ := itr_ok (v := wor k S P w) hx j
      rw [lp_X11_mend_2, if_neg (by decide), mend13_eq h ht hw a1, ob_sb, hf, if_pos rfl, lp_X11_mend_2, if_pos rfl]
      have := itr_stay hf (70 - j)
      rw [show j + (70 - j) = 70 by omega] at this
      rw [this]
    | succ d ih =>
      intro n j hj hn
      obtain ⟨n, rfl⟩ : ∃ m, n = m + 1 := ⟨n - 1, by omega⟩
      obtain ⟨a1, -⟩ := itr_ok (v := wor k S P w) hx j
      obtain ⟨a2, -⟩ := itr_ok (v := wor k S P w) hx (j + 1)
      have e : bs (wor k S P w) (itr (bs (wor k S P w)) x j) = itr (bs (wor k S P w)) x (j + 1) := rfl
      have z := hmin j (by omega)
      rw [lp_X11_mend_2, if_neg (by decide), mend13_eq h ht hw a1, ob_sb]
      rw [if_neg (by rw [e, nI_eq (by omega) (by omega)]; rw [e] at z; exact z)]
      exact ih n (j + 1) (by omega) (by omega)
  unfold f_X11_mend
  exact bind_id (h1 i0 FU 0 (by omega) (by unfold FU; omega))
end SWAPS
