/-! heaps: the reference's sums -/
theorem up_ind {k : Nat} {Pr : Nat → Nat → Prop} (h0 : ∀ n, Pr (n + 1) k) (hs : ∀ n i, i < k → Pr n (i + 1) → Pr (n + 1) i) : ∀ n i, i ≤ k → k - i < n → Pr n i := by
  intro n
  induction n with
  | zero => intro i _ h; omega
  | succ n ih =>
    intro i hi hn
    rcases Nat.lt_or_ge i k with q | q
    · exact hs n i q (ih (i + 1) (by omega) (by omega))
    · obtain rfl : i = k := by omega
      exact h0 n
theorem up0 {k : Nat} (Pr : Nat → Nat → Prop) (hk : k < 300) (h0 : ∀ n, Pr (n + 1) k) (hs : ∀ n i, i < k → Pr n (i + 1) → Pr (n + 1) i) : Pr FU 0 := up_ind h0 hs FU 0 (by omega) (by unfold FU; omega)
theorem up1 {k : Nat} (Pr : Nat → Nat → Prop) (hk : k < 300) (h1 : 1 ≤ k) (h0 : ∀ n, Pr (n + 1) k) (hs : ∀ n i, i < k → Pr n (i + 1) → Pr (n + 1) i) : Pr FU 1 := up_ind h0 hs FU 1 h1 (by unfold FU; omega)
theorem nI_0' : (0 : Int32) = nI 0 := rfl
theorem allPapers_eq {cnt : Int32} {sets papers : Nat → Int32} {k : Nat} {S P : Nat → Nat} (h : hp cnt sets papers k S P) : f_X11_allPapers cnt papers = some (nI (sm P k)) := by
  obtain ⟨rfl, hk, hh, -⟩ := h
  have h1 := up0 (k := k) (fun n i => lp_X11_allPapers_4 (nI k) papers n (nI (sm P i)) (nI i) = some (nI (sm P k))) (by omega)
    (fun n => by rw [lp_X11_allPapers_4, if_pos ((nI_le7 hk hk).mpr (Nat.le_refl _))])
    (fun n i hi ih => by
      rw [lp_X11_allPapers_4, if_neg (by rw [nI_le7 hk (by omega)]; omega)]
      simp (disch := omega) only [ob_inN, nI_clamp, ob_sb, eq_self, if_true, if_false, nI_1, nI_add, pk_mul, (hh i hi).2.2]
      exact ih)
  unfold f_X11_allPapers
  rw [nI_0', show nI 0 = nI (sm P 0) from rfl]
  exact congrArg (fun z => Option.bind z (fun q3 => some q3)) h1
theorem papersOf_eq {cnt : Int32} {sets papers : Nat → Int32} {k : Nat} {S P : Nat → Nat} (h : hp cnt sets papers k S P) {c : Nat} (hc : c < 8) : f_X11_papersOf (nI c) cnt papers sets = some (nI (tel k S P c)) := by
  obtain ⟨rfl, hk, hh, -⟩ := h
  have h1 := up0 (k := k) (fun n i => lp_X11_papersOf_4 (nI c) (nI k) papers sets n (nI (tel i S P c)) (nI i) = some (nI (tel k S P c))) (by omega)
    (fun n => by rw [lp_X11_papersOf_4, if_pos ((nI_le7 hk hk).mpr (Nat.le_refl _))])
    (fun n i hi ih => by
      obtain ⟨e1, e2, e3⟩ := hh i hi
      rw [lp_X11_papersOf_4, if_neg (by rw [nI_le7 hk (by omega)]; omega)]
      simp (disch := omega) only [ob_inN, nI_clamp, ob_sb, eq_self, if_true, if_false, nI_1, nI_add, pk_mul, e1, e3, pb_bit]
      exact ih)
  unfold f_X11_papersOf
  exact congrArg (fun z => Option.bind z (fun q3 => some q3)) h1
theorem mwronged_eq {cnt : Int32} {sets papers : Nat → Int32} {k : Nat} {S P : Nat → Nat} (h : hp cnt sets papers k S P) {x : Nat} (hx : x < 256) : f_X11_wronged (nI x) cnt papers sets = some (nI (wrg k S P x)) := by
  obtain ⟨rfl, hk, hh, -⟩ := h
  have h1 := up0 (k := k) (fun n i => lp_X11_wronged_4 (nI x) (nI k) papers sets n (nI (wrg i S P x)) (nI i) = some (nI (wrg k S P x))) (by omega)
    (fun n => by rw [lp_X11_wronged_4, if_pos ((nI_le7 hk hk).mpr (Nat.le_refl _))])
    (fun n i hi ih => by
      obtain ⟨e1, e2, e3⟩ := hh i hi
      have ha := and_lt8 (b := x) e2
      have e0 : nI (S i &&& x) = 0 ↔ S i &&& x = 0 := nI_eq (b := 0) (by omega) (by decide)
      have hs : wrg (i + 1) S P x = wrg i S P x + if S i &&& x = 0 then P i else 0 := rfl
      rw [hs] at ih
      rw [lp_X11_wronged_4, if_neg (by rw [nI_le7 hk (by omega)]; omega)]
      simp (disch := omega) only [ob_inN, nI_clamp, eq_self, if_true, e1, e3, fa_and, nI_1, nI_add, Nat.and_comm x, e0]
      by_cases q : S i &&& x = 0
      · rw [if_pos q] at ih
        rw [if_pos q]
        exact ih
      · rw [if_neg q] at ih
        rw [if_neg q, nI_0', nI_add]
        exact ih)
  unfold f_X11_wronged
  exact congrArg (fun z => Option.bind z (fun q3 => some q3)) h1
/-- the four worths, as both keep them -/
def wts (wo : Nat → Int32) (w : Nat → Nat) : Prop := ∀ n, n < 4 → wo n = nI (w n)
theorem mworth_in {papers wo : Nat → Int32} {w : Nat → Nat} (hw : wts wo w) {y1 : Int32} {i p b a : Nat} (hi : i < 7) (hp : papers i = nI p) (hb : b ≤ 8) : lp_X11_worthOf_28 y1 (nI i) (nI b) papers wo FU (nI a) (0 : Int32) = some (nI (a + p * pre4 w b)) := by
  have h1 := up0 (k := min b 4) (fun n j => lp_X11_worthOf_28 y1 (nI i) (nI b) papers wo n (nI (a + p * sm w j)) (nI j) = some (nI (a + p * pre4 w b))) (by omega)
    (fun n => by
      rw [lp_X11_worthOf_28]
      rcases Nat.lt_or_ge b 4 with q | q
      · rw [show min b 4 = b by omega, if_pos ((nI_leI (by omega) (by omega)).mpr (Nat.le_refl _))]
        unfold pre4
        rw [show min b 4 = b by omega]
      · rw [show min b 4 = 4 by omega]
        unfold pre4
        rw [show min b 4 = 4 by omega]
        split
        · rfl
        · rw [if_pos (show (4 : Int32) ≤ nI 4 by decide)])
    (fun n j hj ih => by
      rw [lp_X11_worthOf_28, if_neg (by rw [nI_leI (by omega) (by omega)]; omega), if_neg (by rw [show (4 : Int32) = nI 4 from rfl, nI_leI (by omega) (by omega)]; omega)]
      simp (disch := omega) only [ob_inN, nI_clamp, ob_sb, eq_self, if_true, if_false, nI_1, nI_add, pk_mul, hp, hw j (by omega)]
      rw [sm_s, Nat.mul_add, ← Nat.add_assoc] at ih
      exact ih)
  have h2 : a + p * sm w 0 = a := by rw [sm_0]; omega
  rw [h2] at h1
  exact h1
theorem mworthOf_eq {cnt : Int32} {sets papers : Nat → Int32} {k : Nat} {S P : Nat → Nat} (h : hp cnt sets papers k S P) {wo : Nat → Int32} {w : Nat → Nat} (hw : wts wo w) {x : Nat} (hx : x < 256) : f_X11_worthOf (nI x) cnt papers sets wo = some (nI (wor k S P w x)) := by
  obtain ⟨rfl, hk, hh, -⟩ := h
  have h1 := up0 (k := k) (fun n i => lp_X11_worthOf_4 (nI x) (nI k) papers sets wo n (nI (wor i S P w x)) (nI i) = some (nI (wor k S P w x))) (by omega)
    (fun n => by rw [lp_X11_worthOf_4, if_pos ((nI_le7 hk hk).mpr (Nat.le_refl _))])
    (fun n i hi ih => by
      obtain ⟨e1, e2, e3⟩ := hh i hi
      have ha := and_lt8 (b := x) e2
      have hp8 := pc8_le (S i &&& x)
      have hs : wor (i + 1) S P w x = wor i S P w x + P i * pre4 w (pc8 (S i &&& x)) := rfl
      rw [hs] at ih
      rw [lp_X11_worthOf_4, if_neg (by rw [nI_le7 hk (by omega)]; omega)]
      simp (disch := omega) only [ob_inN, nI_clamp, eq_self, if_true, e1, fa_and, Nat.and_comm x, bits_8 _ ha, ob_sb, mworth_in (y1 := nI x) hw (by omega : i < 7) e3 hp8, nI_1]
      exact ih)
  unfold f_X11_worthOf
  exact congrArg (fun z => Option.bind z (fun q3 => some q3)) h1
theorem in_1 {x lo hi : Int32} (h1 : lo ≤ x) (h2 : x ≤ hi) : f_X11_in x lo hi = some 1 := by
  unfold f_X11_in
  rw [if_neg (by rw [fa_lt]; rw [fa_le] at h1; omega), if_neg (by rw [fa_lt]; rw [fa_le] at h2; omega)]
theorem in_0 {x lo hi : Int32} (h : x < lo ∨ hi < x) : f_X11_in x lo hi = some 0 := by
  unfold f_X11_in
  rcases h with h | h
  · rw [if_pos h]
  · by_cases q : x < lo
    · rw [if_pos q]
    · rw [if_neg q, if_pos h]
theorem isLeft_eq {x c : Nat} (hx : x < 256) (hc : c < 8) : f_X11_isLeft (nI c) (nI x) = some (nI (1 - bt x c)) := by
  unfold f_X11_isLeft
  simp (disch := omega) only [ob_inN, nI_clamp, ob_sb, eq_self, if_true, if_false, nI_1, nI_add, pk_mul, pb_bit]
  rcases bt_01 x c with q | q <;> rw [q] <;> rfl
theorem holds_eq {x c : Nat} (hx : x < 256) (hc : c < 8) : f_X8_holds (nI c) (nI x) = some (nI (bt x c)) := by
  unfold f_X8_holds
  simp (disch := omega) only [ob_inN, nI_clamp, ob_sb, eq_self, if_true, if_false, nI_1, nI_add, pk_mul, pb_bit]
  rcases bt_01 x c with q | q <;> rw [q] <;> rfl
