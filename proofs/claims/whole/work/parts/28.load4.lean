/-! LOAD: the whole way, both sides -/
theorem byLoads_eq {cnt : Int32} {sets papers : Nat → Int32} {k : Nat} {S P : Nat → Nat} (h : hp cnt sets papers k S P) {m : Nat} (hm : m ≤ 4) (l0 : Int64) (c0 x0 : Int32) (up : Nat → Int64) (o : Nat → Int32) : ∃ up2 o2, f_X8_byLoads (nI m) cnt l0 c0 x0 papers sets up o = some (lN (lst k S P m).2.1, nI m, nI (lst k S P m).1, up2, o2) ∧ upr up2 0 (lst k S P m).2.2 ∧ ∀ j, j < m → o2 j = nI (pkL k S P j) := by
  have hP := h.2.2.2
  have h1 := up0 (k := m) (fun n i => ∀ (up : Nat → Int64) (o : Nat → Int32), upr up 0 (lst k S P i).2.2 → (∀ j, j < i → o j = nI (pkL k S P j)) → ∃ up2 o2, lp_X8_byLoads_14 (nI m) cnt papers sets n (nI i) (lN (lst k S P i).2.1) (nI i) (nI (lst k S P i).1) up o = some (lN (lst k S P m).2.1, nI m, nI (lst k S P m).1, up2, o2) ∧ upr up2 0 (lst k S P m).2.2 ∧ ∀ j, j < m → o2 j = nI (pkL k S P j)) (by omega)
    (fun n up o a1 a2 => ⟨up, o, by rw [lp_X8_byLoads_14, if_pos ((le4 (by omega) (by omega)).mpr (Nat.le_refl _))], a1, a2⟩)
    (fun n i hi ih up o a1 a2 => by
      obtain ⟨b1, b2, -, -⟩ := lst_ok (S := S) hP i (by omega)
      obtain ⟨g1, g2⟩ := lpk_ok k S P _ (lst k S P i).2.1 (lst k S P i).2.2 b1 (by omega)
      obtain ⟨up1, c1, c2⟩ := bear_eq h a1 (lo := (lst k S P i).2.1) g1
      obtain ⟨up2, o2, e1, e2, e3⟩ := ih up1 (upd o i (nI (pkL k S P i))) (by rw [lst_s]; exact c2) (fun j hj => by
        rcases Nat.lt_or_ge j i with q | q
        · rw [pk_un (by omega), a2 j q]
        · obtain rfl : j = i := by omega
          rw [pk_us])
      refine ⟨up2, o2, ?_, e2, e3⟩
      rw [lp_X8_byLoads_14, if_neg (by rw [le4 (by omega) (by omega)]; omega), lightest_eq h a1 b1 (by omega) (lst_B hP (by omega)), ob_sb, c1, ob_sb, add_eq o g1 (by omega), ob_sb, nI_1]
      rw [lst_s] at e1
      exact e1)
  obtain ⟨upb, b1, b2⟩ := begin5_eq up l0
  obtain ⟨up2, o2, e1, e2, e3⟩ := h1 upb o b2 (fun j hj => by omega)
  refine ⟨up2, o2, ?_, e2, e3⟩
  unfold f_X8_byLoads f_X8_clear
  rw [ob_sb, b1, ob_sb]
  rw [show lp_X8_byLoads_14 (nI m) cnt papers sets FU (0 : Int32) (lN 1) (0 : Int32) (0 : Int32) upb o = some (lN (lst k S P m).2.1, nI m, nI (lst k S P m).1, up2, o2) from e1]
  rfl
theorem loadM_eq {cnt : Int32} {sets papers : Nat → Int32} {k : Nat} {S P : Nat → Nat} (h : hp cnt sets papers k S P) {s : Nat} (hs : s ≤ 4) (wo : Nat → Int32) (pa : Int32) (ru rb : Int64) (ch : Nat → Int32) (low up : Nat → Int64) (hl : low 0 = lN 1) (hu : upr up 0 (fun _ => 0)) : ∃ ch2 low2 up2, lp_X11_layWay_53 (2 : Int32) cnt (nI s) papers sets wo FU (0 : Int32) (0 : Int32) pa ru rb ch low up = some (nI (lst k S P s).1, pa, ru, rb, ch2, low2, up2) ∧ (∀ j, j < s → ch2 j = nI (pkL k S P j)) ∧ ∀ r, r ≤ s → low2 r = lN (lst k S P r).2.1 ∧ upr up2 (7 * r) (lst k S P r).2.2 := by
  have hP := h.2.2.2
  have h1 := up0 (k := s) (fun n i => ∀ (ch : Nat → Int32) (low up : Nat → Int64), (∀ j, j < i → ch j = nI (pkL k S P j)) → (∀ r, r ≤ i → low r = lN (lst k S P r).2.1 ∧ upr up (7 * r) (lst k S P r).2.2) → ∃ ch2 low2 up2, lp_X11_layWay_53 (2 : Int32) cnt (nI s) papers sets wo n (nI i) (nI (lst k S P i).1) pa ru rb ch low up = some (nI (lst k S P s).1, pa, ru, rb, ch2, low2, up2) ∧ (∀ j, j < s → ch2 j = nI (pkL k S P j)) ∧ ∀ r, r ≤ s → low2 r = lN (lst k S P r).2.1 ∧ upr up2 (7 * r) (lst k S P r).2.2) (by omega)
    (fun n ch low up a1 a2 => ⟨ch, low, up, by rw [lp_X11_layWay_53, if_pos ((le4 (by omega) (by omega)).mpr (Nat.le_refl _))], a1, a2⟩)
    (fun n i hi ih ch low up a1 a2 => by
      obtain ⟨b1, b2, -, -⟩ := lst_ok (S := S) hP i (by omega)
      obtain ⟨g1, g2⟩ := lpk_ok k S P _ (lst k S P i).2.1 (lst k S P i).2.2 b1 (by omega)
      obtain ⟨l1, u1⟩ := a2 i (Nat.le_refl _)
      obtain ⟨up1, c1, c2, c3⟩ := loadOne_eq h (by omega) u1 l1 b1 (by omega) (lst_B hP (by omega)) ch
      obtain ⟨ch2, low2, up2, e1, e2, e3⟩ := ih (upd ch i (nI (pkL k S P i))) (vp_updL low (i + 1) (lN ((lst k S P i).2.1 * lm k S P (pkL k S P i)))) up1 (fun j hj => by
        rcases Nat.lt_or_ge j i with q | q
        · rw [pk_un (by omega), a1 j q]
        · obtain rfl : j = i := by omega
          rw [pk_us]) (fun r hr => by
        rcases Nat.lt_or_ge r (i + 1) with q | q
        · refine ⟨by rw [pk_uLn (by omega)]; exact (a2 r (by omega)).1, fun j hj => ?_⟩
          rw [c3 _ (by omega)]
          exact (a2 r (by omega)).2 j hj
        · obtain rfl : r = i + 1 := by omega
          exact ⟨by rw [pk_uLs, lst_s], by rw [lst_s]; exact c2⟩)
      refine ⟨ch2, low2, up2, ?_, e2, e3⟩
      rw [lp_X11_layWay_53, if_neg (by rw [le4 (by omega) (by omega)]; omega), if_neg (by decide), if_neg (by decide), if_neg (by decide), if_neg (by decide), if_pos rfl, c1, ob_sb, nI_1]
      rw [lst_s] at e1
      exact e1)
  exact h1 ch low up (fun j hj => by omega) (fun r hr => by
    obtain rfl : r = 0 := by omega
    exact ⟨hl, hu⟩)
theorem lay19_eq {s : Nat} (hs : s ≤ 4) (y1 : Int32) (up : Nat → Int64) : ∃ up2, lp_X11_layWay_19 y1 (nI s) FU (0 : Int32) up = some up2 ∧ upr up2 0 (fun _ => if y1 = (3 : Int32) then s else 0) := by
  have h1 := up0 (k := 7) (fun n i => ∀ up : Nat → Int64, (∀ j, j < i → up j = lN (if y1 = (3 : Int32) then s else 0)) → ∃ up2, lp_X11_layWay_19 y1 (nI s) n (nI i) up = some up2 ∧ upr up2 0 (fun _ => if y1 = (3 : Int32) then s else 0)) (by omega)
    (fun n up a1 => ⟨up, by rw [lp_X11_layWay_19, if_pos (by decide)], fun j hj => by rw [Nat.zero_add]; exact a1 j hj⟩)
    (fun n i hi ih up a1 => by
      obtain ⟨up2, e1, e2⟩ := ih (vp_updL up i (lN (if y1 = (3 : Int32) then s else 0))) (fun j hj => by
        rcases Nat.lt_or_ge j i with q | q
        · rw [pk_uLn (by omega), a1 j q]
        · obtain rfl : j = i := by omega
          rw [pk_uLs])
      refine ⟨up2, ?_, e2⟩
      rw [lp_X11_layWay_19, if_neg (by rw [le7' (by omega)]; omega)]
      by_cases q : y1 = (3 : Int32)
      · rw [if_pos q] at e1
        rw [if_pos q]
        simp (disch := omega) only [ob_inN, nI_clamp, eq_self, if_true, nI_l, nI_1]
        exact e1
      · rw [if_neg q] at e1
        rw [if_neg q]
        simp (disch := omega) only [ob_inN, nI_clamp, eq_self, if_true, nI_1]
        exact e1)
  exact h1 up (fun j hj => by omega)
