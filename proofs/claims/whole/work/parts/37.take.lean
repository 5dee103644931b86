/-! the chosen by numbers; lowest terms -/
abbrev rk (x c : Nat) : Nat := sm (fun i => bt x i) c
theorem rk_8 (x : Nat) : rk x 8 = pc8 x := by
  unfold rk pc8
  rw [sm_s, sm_s, sm_s, sm_s, sm_s, sm_s, sm_s, sm_s, sm_0]
  omega
theorem rk_lt {x c : Nat} (hc : c < 8) (h : bt x c = 1) : rk x c < pc8 x := by
  have h1 : rk x (c + 1) = rk x c + 1 := by
    unfold rk
    rw [sm_s, h]
  have h2 : rk x (c + 1) ≤ rk x 8 := sm_mono _ (by omega)
  rw [rk_8] at h2
  omega
theorem low_s : ∀ x, x < 256 → ∀ i, i < 8 → (bt x i = 1 → (x % 2 ^ i) ||| 2 ^ i = x % 2 ^ (i + 1)) ∧ (bt x i = 0 → x % 2 ^ (i + 1) = x % 2 ^ i) := by decide +kernel
theorem take_eq {x : Nat} (hx : x < 256) (hp : pc8 x ≤ 4) (c0 x0 : Int32) (o : Nat → Int32) : ∃ o2, f_X8_take (nI x) c0 x0 o = some (nI (pc8 x), nI x, o2) ∧ ∀ c, c < 8 → bt x c = 1 → o2 (rk x c) = nI c := by
  have h1 := up0 (k := 8) (fun n i => ∀ o : Nat → Int32, (∀ c, c < i → bt x c = 1 → o (rk x c) = nI c) → ∃ o2, lp_X8_take_6 (nI x) n (nI i) (nI (rk x i)) (nI (x % 2 ^ i)) o = some (nI (pc8 x), nI x, o2) ∧ ∀ c, c < 8 → bt x c = 1 → o2 (rk x c) = nI c) (by omega)
    (fun n o a => ⟨o, by rw [lp_X8_take_6, if_pos (by decide), rk_8, show x % 2 ^ 8 = x from Nat.mod_eq_of_lt hx], a⟩)
    (fun n i hi ih o a => by
      obtain ⟨l1, l2⟩ := low_s x hx i hi
      have hs : rk x (i + 1) = rk x i + bt x i := rfl
      rw [lp_X8_take_6, if_neg (by rw [le8 (by omega)]; omega), pb_bit (by omega) (by omega), nI_1]
      rcases bt_01 x i with q | q
      · rw [q, if_neg (by decide)]
        obtain ⟨o2, e1, e2⟩ := ih o (fun c hc hb => by
          rcases Nat.lt_or_ge c i with g | g
          · exact a c g hb
          · obtain rfl : c = i := by omega
            omega)
        rw [hs, q, Nat.add_zero, l2 q] at e1
        exact ⟨o2, e1, e2⟩
      · have hlt := rk_lt hi q
        rw [q, if_pos (by decide), add_eq o hi (by omega), ob_sb]
        obtain ⟨o2, e1, e2⟩ := ih (upd o (rk x i) (nI i)) (fun c hc hb => by
          rcases Nat.lt_or_ge c i with g | g
          · have : rk x (c + 1) ≤ rk x i := sm_mono _ (by omega)
            have h2 : rk x (c + 1) = rk x c + 1 := by unfold rk; rw [sm_s, hb]
            rw [pk_un (by omega), a c g hb]
          · obtain rfl : c = i := by omega
            rw [pk_us])
        rw [hs, q, ← l1 q] at e1
        exact ⟨o2, e1, e2⟩)
  obtain ⟨o2, e1, e2⟩ := h1 o (fun c hc => by omega)
  refine ⟨o2, ?_, e2⟩
  unfold f_X8_take f_X8_clear
  rw [ob_sb]
  dsimp only
  rw [show lp_X8_take_6 (nI x) FU (0 : Int32) (0 : Int32) (0 : Int32) o = some (nI (pc8 x), nI x, o2) by
    rw [show x % 2 ^ 0 = 0 by rw [Nat.pow_zero, Nat.mod_one]] at e1
    exact e1]
  rfl
theorem nth_no {x : Nat} (hx : x < 256) {y : Int32} (hy : ∀ c, c < 8 → bt x c = 1 → ¬ nI (rk x c) = y) : f_X11_nth (nI x) y = some (-6 : Int32) := by
  have h1 := up0 (k := 8) (fun n i => lp_X11_nth_4 (nI x) y (fun _ => some (-6 : Int32)) n (nI (rk x i)) (nI i) = some (-6 : Int32)) (by omega)
    (fun n => by rw [lp_X11_nth_4, if_pos (by decide)])
    (fun n i hi ih => by
      have hs : rk x (i + 1) = rk x i + bt x i := rfl
      rw [hs] at ih
      rw [lp_X11_nth_4, if_neg (by rw [le8 (by omega)]; omega), pb_bit (by omega) (by omega), nI_1, nI_1]
      rcases bt_01 x i with q | q
      · rw [q] at ih ⊢
        rw [if_neg (by decide)]
        exact ih
      · rw [q] at ih
        rw [if_neg (hy i hi q), q, if_pos (by decide)]
        exact ih)
  exact h1
theorem nth_yes {x : Nat} (hx : x < 256) {c : Nat} (hc : c < 8) (hb : bt x c = 1) : f_X11_nth (nI x) (nI (rk x c)) = some (nI c) := by
  have hr := rk_lt hc hb
  have hp8 := pc8_le x
  have h1 := up_ind (k := c) (Pr := fun n i => lp_X11_nth_4 (nI x) (nI (rk x c)) (fun _ => some (-6 : Int32)) n (nI (rk x i)) (nI i) = some (nI c))
    (fun n => by rw [lp_X11_nth_4, if_neg (by rw [le8 (by omega)]; omega), pb_bit (by omega) (by omega), hb, if_pos (by decide), if_pos rfl])
    (fun n i hi ih => by
      have hs : rk x (i + 1) = rk x i + bt x i := rfl
      have hm : rk x (i + 1) ≤ rk x c := sm_mono _ (by omega)
      rw [hs] at ih hm
      rw [lp_X11_nth_4, if_neg (by rw [le8 (by omega)]; omega), pb_bit (by omega) (by omega), nI_1, nI_1]
      rcases bt_01 x i with q | q
      · rw [q] at ih ⊢
        rw [if_neg (by decide)]
        exact ih
      · rw [q] at ih hm
        rw [q, if_pos (by decide), if_neg (by rw [nI_eq (by omega) (by omega)]; omega)]
        exact ih) FU 0 (by omega) (by unfold FU; omega)
  exact h1
theorem nth_ex : ∀ x, x < 256 → ∀ m, m < 8 → m < pc8 x → ∃ c, c < 8 ∧ bt x c = 1 ∧ rk x c = m := by decide +kernel
/-- the i-th one chosen, where both go by numbers -/
theorem nth_take {x : Nat} (hx : x < 256) (hp : pc8 x ≤ 4) {o2 : Nat → Int32} (ho : ∀ c, c < 8 → bt x c = 1 → o2 (rk x c) = nI c) (y : Int32) : ∃ r, f_X8_chosenAt y (nI (pc8 x)) o2 = some r ∧ f_X11_nth (nI x) y = some r := by
  by_cases q : y < 0
  · refine ⟨-6, ?_, nth_no hx (fun c hc hb e => ?_)⟩
    · unfold f_X8_chosenAt
      rw [if_pos q]
    · have := rk_lt hc hb
      rw [← e] at q
      exact nI_nneg (by omega) q
  · obtain ⟨m, hm, rfl⟩ := nI_of q
    rcases Nat.lt_or_ge m (pc8 x) with g | g
    · obtain ⟨c, c1, c2, c3⟩ := nth_ex x hx m (by omega) g
      refine ⟨nI c, ?_, by rw [← c3]; exact nth_yes hx c1 c2⟩
      unfold f_X8_chosenAt
      rw [if_neg q, if_neg (by rw [nI_leI (by omega) (by omega)]; omega), if_neg (by rw [show (4 : Int32) = nI 4 from rfl, nI_leI (by omega) (by omega)]; omega), if_pos (ob_inN (by omega) (by decide)), nI_clamp (by omega), ← c3, ho c c1 c2]
    · refine ⟨-6, ?_, nth_no hx (fun c hc hb e => ?_)⟩
      · unfold f_X8_chosenAt
        rw [if_neg q, if_pos (by rw [nI_leI (by omega) (by omega)]; omega)]
      · have := rk_lt hc hb
        rw [nI_eq (by omega) hm] at e
        omega
