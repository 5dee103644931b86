/-! SHARE: who is chosen, both sides -/
theorem rho95_eq {cnt : Int32} {sets papers : Nat → Int32} {k : Nat} {S P : Nat → Nat} (h : hp cnt sets papers k S P) {up : Nat → Int64} {u : Nat → Nat} {m : Nat} (hm : m ≤ 4) (hu : upr up (7 * m) u) {c C : Nat} (hc : c < 8) (hub : ∀ j, u j ≤ 10000000000000000) (hCb : C ≤ 10000000000000000) (ht : 0 < tel k S P c) (hC : C ≤ su k S P u c) : ∀ (n y r : Nat) (ru rb : Int64), mks y k S c (rr k (aw S P c) u C r) → r ≤ pc8 y → 9 - pc8 y < n → lp_X11_layRho_95 (nI m) (nI c) (lN C) cnt papers sets up n (nI y) (1 : Int32) ru rb = some (lN (rst k (aw S P c) u C 7), lN (pay k (aw S P c) u C 7)) := by
  have hT : tel k S P c ≤ 600 := Nat.le_trans (tel_le k S P c) h.2.2.2
  have hC' : C ≤ sm (fun j => aw S P c j * u j) k := hC
  have ht' : 0 < sm (aw S P c) k := ht
  have hT' : sm (aw S P c) k ≤ 600 := hT
  intro n
  induction n with
  | zero => intro y r ru rb _ _ hn; omega
  | succ n ih =>
    intro y r ru rb hy hr hn
    have hy7 := pc8_7 y hy.1
    obtain ⟨p1, p2, p3⟩ := pay_pos hC' ht' r
    obtain ⟨a1, a2, a3⟩ := rr_ok hC' ht' r
    rw [lp_X11_layRho_95, if_neg (by decide), rho113_eq h hm hu hc (rr_le k (aw S P c) u C r) hy a1, ob_sb]
    obtain ⟨y2, f, e1, e2, e3⟩ := rho249_eq h hm hu hc (rs := rst k (aw S P c) u C r) (py := pay k (aw S P c) u C r) (by omega) hub (by omega) (rr_le k (aw S P c) u C r) hy a3 (lN C)
    dsimp only
    rw [show lN (C - gA k (aw S P c) u (rr k (aw S P c) u C r)) = lN (rst k (aw S P c) u C r) from rfl, show lN (tel k S P c - gB k (aw S P c) (rr k (aw S P c) u C r)) = lN (pay k (aw S P c) u C r) from rfl, e1, ob_sb]
    dsimp only
    rcases e3 with ⟨rfl, q⟩ | ⟨rfl, q⟩
    · obtain ⟨n, rfl⟩ : ∃ z, n = z + 1 := ⟨n - 1, by omega⟩
      rw [lp_X11_layRho_95, if_pos rfl]
      have hpe : pay k (aw S P c) u C (r + 1) = pay k (aw S P c) u C r := by
        have : gB k (aw S P c) (rr k (aw S P c) u C (r + 1)) = gB k (aw S P c) (rr k (aw S P c) u C r) := sm_cong (fun j hj => by
          have h1 := q j hj
          rw [rr_s]
          rw [Nat.mul_right_comm, h1, Nat.mul_right_comm])
        unfold pay
        rw [this]
      obtain ⟨s1, s2, -⟩ := rho_stop hC' ht' hpe (7 - r)
      rw [show r + (7 - r) = 7 by omega] at s1 s2
      rw [s1, s2]
    · exact ih y2 (r + 1) _ _ e2 (by omega) (by omega)
/-- to be had: it has papers, and their purses together are that or more -/
abbrev af (k : Nat) (S P : Nat → Nat) (lo : Nat) (u : Nat → Nat) (c : Nat) : Prop := 0 < tel k S P c ∧ sm P k * lo ≤ su k S P u c
abbrev rho (k : Nat) (S P : Nat → Nat) (lo : Nat) (u : Nat → Nat) (c : Nat) : Nat := rst k (aw S P c) u (sm P k * lo) 7
abbrev pys (k : Nat) (S P : Nat → Nat) (lo : Nat) (u : Nat → Nat) (c : Nat) : Nat := pay k (aw S P c) u (sm P k * lo) 7
theorem rho_b {cnt : Int32} {sets papers : Nat → Int32} {k : Nat} {S P : Nat → Nat} (h : hp cnt sets papers k S P) {lo : Nat} {u : Nat → Nat} {c : Nat} (ha : af k S P lo u c) : 0 < pys k S P lo u c ∧ pys k S P lo u c ≤ 600 ∧ rho k S P lo u c ≤ sm P k * lo := by
  have hT : tel k S P c ≤ 600 := Nat.le_trans (tel_le k S P c) h.2.2.2
  have h1 := pay_pos (k := k) (a := aw S P c) (u := u) (C := sm P k * lo) ha.2 ha.1 7
  exact ⟨h1.1, Nat.le_trans h1.2.1 hT, h1.2.2⟩
theorem mks0 (k : Nat) (S : Nat → Nat) (c : Nat) : mks 0 k S c (fun _ => 0) := ⟨by decide, fun j _ => by
  unfold bt
  simp⟩
theorem layRho_yes {cnt : Int32} {sets papers : Nat → Int32} {k : Nat} {S P : Nat → Nat} (h : hp cnt sets papers k S P) {up low : Nat → Int64} {u : Nat → Nat} {m lo : Nat} (hm : m ≤ 3) (hu : upr up (7 * m) u) (hl : low m = lN lo) {c : Nat} (hc : c < 8) (hub : ∀ j, u j ≤ 10000000000000000) (hlo : sm P k * lo ≤ 10000000000000000) (hsu : su k S P u c < 2 ^ 63) (ha : af k S P lo u c) (ru rb : Int64) : f_X11_layRho (nI m) (nI c) cnt ru rb low papers sets up = some ((1 : Int32), lN (rho k S P lo u c), lN (pys k S P lo u c)) := by
  have hT : tel k S P c ≤ 600 := Nat.le_trans (tel_le k S P c) h.2.2.2
  have hP := h.2.2.2
  unfold f_X11_layRho
  rw [allPapers_eq h, ob_sb, if_pos (ob_inN (by omega) (by decide)), nI_clamp (by omega), hl, nI_l (by omega), lN_mul, rho19_eq h (by omega) hu hc, ob_sb, papersOf_eq h hc, ob_sb, if_neg (nI_ne0 ha.1 (by omega)), if_pos ((cmp_lN hsu (by omega)).mpr ha.2)]
  have e := rho95_eq h (by omega) hu hc hub hlo ha.1 ha.2 FU 0 0 ru rb (mks0 k S c) (by omega) (by unfold FU; omega)
  rw [show (0 : Int32) = nI 0 from rfl, e]
  rfl
theorem layRho_no {cnt : Int32} {sets papers : Nat → Int32} {k : Nat} {S P : Nat → Nat} (h : hp cnt sets papers k S P) {up low : Nat → Int64} {u : Nat → Nat} {m lo : Nat} (hm : m ≤ 3) (hu : upr up (7 * m) u) (hl : low m = lN lo) {c : Nat} (hc : c < 8) (hlo : sm P k * lo ≤ 10000000000000000) (hsu : su k S P u c < 2 ^ 63) (ha : ¬ af k S P lo u c) (ru rb : Int64) : f_X11_layRho (nI m) (nI c) cnt ru rb low papers sets up = some ((0 : Int32), ru, rb) := by
  have hT : tel k S P c ≤ 600 := Nat.le_trans (tel_le k S P c) h.2.2.2
  have hP := h.2.2.2
  unfold f_X11_layRho
  rw [allPapers_eq h, ob_sb, if_pos (ob_inN (by omega) (by decide)), nI_clamp (by omega), hl, nI_l (by omega), lN_mul, rho19_eq h (by omega) hu hc, ob_sb, papersOf_eq h hc, ob_sb]
  rcases Nat.eq_zero_or_pos (tel k S P c) with t0 | t0
  · rw [t0, if_pos (by decide)]
  · rw [if_neg (nI_ne0 t0 (by omega)), if_neg (fun z => ha ⟨t0, (cmp_lN hsu (by omega)).mp z⟩)]
/-- the cheapest, among those that are left and to be had -/
def ac (k : Nat) (S P : Nat → Nat) (x lo : Nat) (u : Nat → Nat) : Nat → Option Nat
  | 0 => none
  | n + 1 => match ac k S P x lo u n with
    | none => if bt x n = 0 ∧ af k S P lo u n then some n else none
    | some b => if bt x n = 0 ∧ af k S P lo u n ∧ rho k S P lo u n * pys k S P lo u b < rho k S P lo u b * pys k S P lo u n then some n else some b
