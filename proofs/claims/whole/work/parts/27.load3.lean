/-! LOAD: the reference's step, and the steps one after the other -/
theorem nI_6neg : (-6 : Int32) < 0 := by decide
theorem load11_eq {cnt : Int32} {sets papers : Nat → Int32} {k : Nat} {S P : Nat → Nat} (h : hp cnt sets papers k S P) {up low : Nat → Int64} {u : Nat → Nat} {r : Nat} (hr : r ≤ 3) (hu : upr up (7 * r) u) {x lo : Nat} (hl : low r = lN lo) (hx : x < 256) (hB : ∀ c, c < 8 → lw k S P lo u c ≤ 10000000000000000) : lp_X11_loadOne_11 (nI r) cnt (nI x) low papers sets up FU (-6 : Int32) (0 : Int64) (1 : Int64) (0 : Int32) = some (match al k S P x lo u 8 with
    | some b => (nI b, lN (lw k S P lo u b), lN (tel k S P b))
    | none => ((-6 : Int32), (0 : Int64), (1 : Int64))) := by
  have hT : ∀ c, tel k S P c ≤ 600 := fun c => Nat.le_trans (tel_le k S P c) h.2.2.2
  have h1 := up0 (k := 8) (fun n i => ∀ (y2 : Int32) (y3 y5 : Int64), (y2, y3, y5) = (match al k S P x lo u i with
      | some b => (nI b, lN (lw k S P lo u b), lN (tel k S P b))
      | none => ((-6 : Int32), (0 : Int64), (1 : Int64))) → lp_X11_loadOne_11 (nI r) cnt (nI x) low papers sets up n y2 y3 y5 (nI i) = some (match al k S P x lo u 8 with
    | some b => (nI b, lN (lw k S P lo u b), lN (tel k S P b))
    | none => ((-6 : Int32), (0 : Int64), (1 : Int64)))) (by omega)
    (fun n y2 y3 y5 hI => by rw [lp_X11_loadOne_11, if_pos (by decide), hI])
    (fun n i hi ih y2 y3 y5 hI => by
      have hti := hT i
      rw [lp_X11_loadOne_11, if_neg (by rw [le8 (by omega)]; omega), papersOf_eq h hi, ob_sb, isLeft_eq hx hi, ob_sb, nI_1, nI_l (by omega)]
      have hc0 := cmp_lN0 (a := tel k S P i) (by omega)
      rcases bt_01 x i with q | q
      · rw [q, if_neg (by decide)]
        by_cases t0 : tel k S P i = 0
        · rw [if_pos (hc0.mpr t0)]
          refine ih _ _ _ ?_
          rw [hI, al_s]
          cases al k S P x lo u i with
          | none =>
            dsimp only
            rw [if_neg (fun z => by omega)]
          | some b =>
            dsimp only
            rw [if_neg (fun z => by omega)]
        · rw [if_neg (fun z => t0 (hc0.mp z)), if_pos (ob_inN (by omega) (by decide)), nI_clamp (by omega), hl, load54_eq h (by omega) hu hi, ob_sb]
          rw [show lo + su k S P u i = lw k S P lo u i from rfl]
          cases e : al k S P x lo u i with
          | none =>
            rw [e] at hI
            dsimp only at hI
            obtain ⟨rfl, h23⟩ := Prod.mk.inj hI
            rw [if_pos nI_6neg]
            refine ih _ _ _ ?_
            rw [al_s, e]
            dsimp only
            rw [if_pos ⟨q, by omega⟩]
          | some b =>
            rw [e] at hI
            dsimp only at hI
            have hb := al_in e
            have htb := hT b
            have hBi := hB i hi
            have hBb := hB b (by omega)
            obtain ⟨rfl, h23⟩ := Prod.mk.inj hI
            obtain ⟨rfl, rfl⟩ := Prod.mk.inj h23
            rw [if_neg (nI_nneg (by omega)), lN_mul, lN_mul]
            have hc := cmp_lN (mul_lt63 hBi htb) (mul_lt63 hBb hti)
            by_cases g : lw k S P lo u i * tel k S P b < lw k S P lo u b * tel k S P i
            · rw [if_neg (fun z => by have := hc.mp z; omega)]
              refine ih _ _ _ ?_
              rw [al_s, e]
              dsimp only
              rw [if_pos ⟨q, by omega, g⟩]
            · rw [if_pos (hc.mpr (by omega))]
              refine ih _ _ _ ?_
              rw [al_s, e]
              dsimp only
              rw [if_neg (fun z => g z.2.2)]
      · rw [q, if_pos (by decide)]
        refine ih _ _ _ ?_
        rw [hI, al_s]
        cases al k S P x lo u i with
        | none =>
          dsimp only
          rw [if_neg (fun z => by omega)]
        | some b =>
          dsimp only
          rw [if_neg (fun z => by omega)])
  exact h1 (-6) 0 1 rfl
theorem carry_eq {low up : Nat → Int64} {u : Nat → Nat} {r lo t : Nat} (hr : r ≤ 3) (hu : upr up (7 * r) u) (hl : low r = lN lo) : ∃ up2, f_X11_carry (nI r) (lN t) low up = some (vp_updL low (r + 1) (lN (lo * t)), up2) ∧ upr up2 (7 * (r + 1)) (fun j => u j * t) ∧ ∀ i, i < 7 * (r + 1) → up2 i = up i := by
  have h1 := up0 (k := 7) (fun n i => ∀ up1 : Nat → Int64, (∀ j, j < i → up1 (7 * (r + 1) + j) = lN (u j * t)) → (∀ j, j < 7 * (r + 1) → up1 j = up j) → ∃ up2, lp_X11_carry_19 (nI r) (lN t) n (nI i) up1 = some up2 ∧ upr up2 (7 * (r + 1)) (fun j => u j * t) ∧ ∀ i, i < 7 * (r + 1) → up2 i = up i) (by omega)
    (fun n up1 a1 a2 => ⟨up1, by rw [lp_X11_carry_19, if_pos (by decide)], a1, a2⟩)
    (fun n i hi ih up1 a1 a2 => by
      obtain ⟨up2, e1, e2, e3⟩ := ih (vp_updL up1 (7 * (r + 1) + i) (lN (u i * t))) (fun j hj => by
        rcases Nat.lt_or_ge j i with q | q
        · rw [pk_uLn (by omega), a1 j q]
        · obtain rfl : j = i := by omega
          rw [pk_uLs]) (fun j hj => by rw [pk_uLn (by omega), a2 j hj])
      refine ⟨up2, ?_, e2, e3⟩
      have e4 : up1 (7 * r + i) = lN (u i) := by rw [a2 _ (by omega), hu i hi]
      rw [lp_X11_carry_19, if_neg (by rw [le7' (by omega)]; omega), nI_1]
      simp (disch := omega) only [row_ix, ob_inN, nI_clamp, eq_self, if_true, e4, lN_mul, nI_1]
      exact e1)
  obtain ⟨up2, e1, e2, e3⟩ := h1 up (fun j hj => by omega) (fun j _ => rfl)
  refine ⟨up2, ?_, e2, e3⟩
  unfold f_X11_carry
  rw [nI_1, if_pos (ob_inN (by omega) (by decide)), if_pos (ob_inN (by omega) (by decide)), nI_clamp (by omega), nI_clamp (by omega), hl, lN_mul]
  rw [show lp_X11_carry_19 (nI r) (lN t) FU (0 : Int32) up = some up2 from e1]
  rfl
theorem load151_eq {cnt : Int32} {sets papers : Nat → Int32} {k : Nat} {S P : Nat → Nat} (h : hp cnt sets papers k S P) {up : Nat → Int64} {v : Nat → Nat} {r b m : Nat} (hr : r ≤ 3) (hb : b < 8) (hu : upr up (7 * (r + 1)) v) : ∃ up2, lp_X11_loadOne_151 (nI r) (nI b) (lN m) cnt sets FU (0 : Int32) up = some up2 ∧ upr up2 (7 * (r + 1)) (fun j => if j < k ∧ bt (S j) b = 1 then m else v j) ∧ ∀ i, i < 7 * (r + 1) → up2 i = up i := by
  obtain ⟨rfl, hk, hh, -⟩ := h
  have h1 := up0 (k := k) (fun n i => ∀ up1 : Nat → Int64, (∀ j, j < 7 → up1 (7 * (r + 1) + j) = lN (if j < i ∧ bt (S j) b = 1 then m else v j)) → (∀ j, j < 7 * (r + 1) → up1 j = up j) → ∃ up2, lp_X11_loadOne_151 (nI r) (nI b) (lN m) (nI k) sets n (nI i) up1 = some up2 ∧ upr up2 (7 * (r + 1)) (fun j => if j < k ∧ bt (S j) b = 1 then m else v j) ∧ ∀ i, i < 7 * (r + 1) → up2 i = up i) (by omega)
    (fun n up1 a1 a2 => ⟨up1, by rw [lp_X11_loadOne_151, if_pos ((nI_le7 hk hk).mpr (Nat.le_refl _))], a1, a2⟩)
    (fun n i hi ih up1 a1 a2 => by
      obtain ⟨e1, e2, e3⟩ := hh i hi
      rw [lp_X11_loadOne_151, if_neg (by rw [nI_le7 hk (by omega)]; omega), if_neg (nI_nneg (by omega)), nI_1, nI_1, row_ix]
      simp (disch := omega) only [ob_inN, nI_clamp, eq_self, if_true, e1, pb_bit]
      rcases bt_01 (S i) b with q | q
      · rw [q, if_neg (by decide)]
        refine ih _ (fun j hj => ?_) (fun j hj => by rw [pk_uLn (by omega), a2 j hj])
        by_cases g : j = i
        · subst g
          rw [pk_uLs, a1 j hj, if_neg (fun z => by omega), if_neg (fun z => by omega)]
        · rw [pk_uLn (by omega), a1 j hj]
          by_cases g2 : bt (S j) b = 1
          · by_cases g3 : j < i
            · rw [if_pos ⟨g3, g2⟩, if_pos ⟨by omega, g2⟩]
            · rw [if_neg (fun z => g3 z.1), if_neg (fun z => by omega)]
          · rw [if_neg (fun z => g2 z.2), if_neg (fun z => g2 z.2)]
      · rw [q, if_pos (by decide)]
        refine ih _ (fun j hj => ?_) (fun j hj => by rw [pk_uLn (by omega), a2 j hj])
        by_cases g : j = i
        · subst g
          rw [pk_uLs, if_pos ⟨by omega, q⟩]
        · rw [pk_uLn (by omega), a1 j hj]
          by_cases g2 : bt (S j) b = 1
          · by_cases g3 : j < i
            · rw [if_pos ⟨g3, g2⟩, if_pos ⟨by omega, g2⟩]
            · rw [if_neg (fun z => g3 z.1), if_neg (fun z => by omega)]
          · rw [if_neg (fun z => g2 z.2), if_neg (fun z => g2 z.2)])
  obtain ⟨up2, e1, e2, e3⟩ := h1 up (fun j hj => by rw [hu j hj, if_neg (fun z => by omega)]) (fun j _ => rfl)
  exact ⟨up2, e1, e2, e3⟩
theorem load151_no (cnt : Int32) (sets : Nat → Int32) (y1 : Int32) (y3 : Int64) (up : Nat → Int64) : lp_X11_loadOne_151 y1 (-6 : Int32) y3 cnt sets FU (0 : Int32) up = some up := by
  show lp_X11_loadOne_151 y1 (-6 : Int32) y3 cnt sets (299 + 1) (0 : Int32) up = some up
  rw [lp_X11_loadOne_151, if_pos nI_6neg]
  split <;> rfl
theorem loadOne_eq {cnt : Int32} {sets papers : Nat → Int32} {k : Nat} {S P : Nat → Nat} (h : hp cnt sets papers k S P) {up low : Nat → Int64} {u : Nat → Nat} {r : Nat} (hr : r ≤ 3) (hu : upr up (7 * r) u) {x lo : Nat} (hl : low r = lN lo) (hx : x < 256) (hp : pc8 x < 8) (hB : ∀ c, c < 8 → lw k S P lo u c ≤ 10000000000000000) (ch : Nat → Int32) : ∃ up2, f_X11_loadOne (nI r) cnt (nI x) ch low papers sets up = some (nI (x ||| 2 ^ (lpk k S P x lo u)), upd ch r (nI (lpk k S P x lo u)), vp_updL low (r + 1) (lN (lo * lm k S P (lpk k S P x lo u))), up2) ∧ upr up2 (7 * (r + 1)) (lu k S P lo u (lpk k S P x lo u)) ∧ ∀ i, i < 7 * (r + 1) → up2 i = up i := by
  unfold f_X11_loadOne
  rw [load11_eq h hr hu hl hx hB, ob_sb]
  have hok := lpk_ok k S P x lo u hx hp
  cases e : al k S P x lo u 8 with
  | none =>
    have hz := al_none e
    have hb : lpk k S P x lo u = pk8 x (tel k S P) := by unfold lpk; rw [e]
    have t0 : tel k S P (lpk k S P x lo u) = 0 := hz _ hok.1 hok.2
    dsimp only
    obtain ⟨up1, c1, c2, c3⟩ := carry_eq (t := 1) hr hu hl
    rw [lN_11, c1, ob_sb, load151_no, ob_sb, if_neg (by decide), most_pick h hx, ob_sb, enc_pk hx hp, ← hb, pick_eq ch hok.1 (by omega), ob_sb]
    refine ⟨up1, ?_, fun j hj => ?_, c3⟩
    · unfold lm
      rw [if_pos t0]
    · rw [c2 j hj]
      unfold lu
      dsimp only
      rw [if_pos t0, Nat.mul_one]
  | some b =>
    have hbb := al_in e
    have hb : lpk k S P x lo u = b := by unfold lpk; rw [e]
    dsimp only
    rw [hb] at hok ⊢
    obtain ⟨up1, c1, c2, c3⟩ := carry_eq (t := tel k S P b) hr hu hl
    obtain ⟨up2, d1, d2, d3⟩ := load151_eq h hr hok.1 (m := lw k S P lo u b) c2
    rw [c1, ob_sb, d1, ob_sb, if_pos (nI_pos' (by omega)), pick_eq ch hok.1 (by omega), ob_sb]
    refine ⟨up2, ?_, fun j hj => ?_, fun i hi => by rw [d3 i hi, c3 i hi]⟩
    · unfold lm
      rw [if_neg (by omega)]
    · rw [d2 j hj]
      unfold lu
      rw [if_neg (by omega)]
/-- the steps of LOAD: chosen, lower, upper -/
def lst (k : Nat) (S P : Nat → Nat) : Nat → Nat × Nat × (Nat → Nat)
  | 0 => (0, 1, fun _ => 0)
  | r + 1 => ((lst k S P r).1 ||| 2 ^ (lpk k S P (lst k S P r).1 (lst k S P r).2.1 (lst k S P r).2.2), (lst k S P r).2.1 * lm k S P (lpk k S P (lst k S P r).1 (lst k S P r).2.1 (lst k S P r).2.2), lu k S P (lst k S P r).2.1 (lst k S P r).2.2 (lpk k S P (lst k S P r).1 (lst k S P r).2.1 (lst k S P r).2.2))
abbrev pkL (k : Nat) (S P : Nat → Nat) (r : Nat) : Nat := lpk k S P (lst k S P r).1 (lst k S P r).2.1 (lst k S P r).2.2
theorem lst_s (k : Nat) (S P : Nat → Nat) (r : Nat) : lst k S P (r + 1) = ((lst k S P r).1 ||| 2 ^ (pkL k S P r), (lst k S P r).2.1 * lm k S P (pkL k S P r), lu k S P (lst k S P r).2.1 (lst k S P r).2.2 (pkL k S P r)) := rfl
theorem su_le {k : Nat} {S P u : Nat → Nat} {M : Nat} (hP : sm P k ≤ 600) (hM : ∀ j, u j * 600 ≤ M) (c : Nat) : su k S P u c ≤ M := by
  have h1 : 600 * su k S P u c ≤ M * sm P k := by
    unfold su
    rw [← sm_mulL, ← sm_mulL]
    refine sm_le (fun j _ => ?_)
    have h2 : bt (S j) c * P j ≤ P j := by rcases bt_01 (S j) c with q | q <;> rw [q] <;> omega
    calc 600 * (bt (S j) c * P j * u j) = (bt (S j) c * P j) * (u j * 600) := by rw [Nat.mul_comm 600, Nat.mul_assoc]
      _ ≤ P j * M := Nat.mul_le_mul h2 (hM j)
      _ = M * P j := Nat.mul_comm _ _
  have h3 : M * sm P k ≤ M * 600 := Nat.mul_le_mul_left M hP
  omega
theorem lst_ok {k : Nat} {S P : Nat → Nat} (hP : sm P k ≤ 600) : ∀ r, r ≤ 8 → (lst k S P r).1 < 256 ∧ pc8 (lst k S P r).1 = r ∧ (lst k S P r).2.1 ≤ 600 ^ r ∧ (∀ j, (lst k S P r).2.2 j * 600 ≤ r * 600 ^ r)
  | 0, _ => ⟨(by decide : (0 : Nat) < 256), (by decide : pc8 0 = 0), (by decide : 1 ≤ 600 ^ 0), fun j => (by decide : 0 * 600 ≤ 0 * 600 ^ 0)⟩
  | r + 1, hr => by
    obtain ⟨h1, h2, h3, h4⟩ := lst_ok (S := S) hP r (by omega)
    obtain ⟨g1, g2⟩ := lpk_ok k S P _ (lst k S P r).2.1 (lst k S P r).2.2 h1 (by omega)
    have hT : tel k S P (pkL k S P r) ≤ 600 := Nat.le_trans (tel_le k S P _) hP
    have hpow : 600 ^ (r + 1) = 600 ^ r * 600 := Nat.pow_succ 600 r
    have hlw : lw k S P (lst k S P r).2.1 (lst k S P r).2.2 (pkL k S P r) ≤ (r + 1) * 600 ^ r := by
      unfold lw
      have := su_le (S := S) hP h4 (pkL k S P r)
      rw [Nat.add_mul, Nat.one_mul]
      omega
    rw [lst_s]
    refine ⟨or_pow_lt _ h1 _ g1, by rw [pc8_or _ h1 _ g1 g2, h2], ?_, fun j => ?_⟩
    · dsimp only
      unfold lm
      rw [hpow]
      split
      · rw [Nat.mul_one]
        have : 600 ^ r ≤ 600 ^ r * 600 := Nat.le_mul_of_pos_right _ (by omega)
        omega
      · exact Nat.mul_le_mul h3 hT
    · dsimp only
      unfold lu
      rw [hpow]
      have hbig : r * 600 ^ r ≤ (r + 1) * 600 ^ r := Nat.mul_le_mul_right _ (by omega)
      rw [← Nat.mul_assoc]
      split
      · have := h4 j
        have : (r + 1) * 600 ^ r ≤ (r + 1) * 600 ^ r * 600 := Nat.le_mul_of_pos_right _ (by omega)
        omega
      · split
        · exact Nat.mul_le_mul_right 600 hlw
        · have h5 : (lst k S P r).2.2 j * 600 * tel k S P (pkL k S P r) ≤ (r * 600 ^ r) * 600 := Nat.mul_le_mul (h4 j) hT
          have h6 : (lst k S P r).2.2 j * tel k S P (pkL k S P r) * 600 = (lst k S P r).2.2 j * 600 * tel k S P (pkL k S P r) := by rw [Nat.mul_assoc, Nat.mul_comm (tel k S P (pkL k S P r)), ← Nat.mul_assoc]
          rw [h6]
          exact Nat.le_trans h5 (Nat.mul_le_mul_right 600 hbig)
theorem lst_B {k : Nat} {S P : Nat → Nat} (hP : sm P k ≤ 600) {r : Nat} (hr : r ≤ 3) : ∀ c, c < 8 → lw k S P (lst k S P r).2.1 (lst k S P r).2.2 c ≤ 10000000000000000 := by
  intro c _
  obtain ⟨-, -, h3, h4⟩ := lst_ok (S := S) hP r (by omega)
  have h5 := su_le (S := S) hP h4 c
  unfold lw
  have h6 : 600 ^ r ≤ 600 ^ 3 := Nat.pow_le_pow_right (by decide) hr
  have h7 : r * 600 ^ r ≤ 3 * 600 ^ 3 := Nat.mul_le_mul hr h6
  omega
