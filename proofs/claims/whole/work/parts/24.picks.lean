/-! picks one after the other -/
def xs (pk : Nat → Nat) (x0 : Nat) : Nat → Nat
  | 0 => x0
  | m + 1 => xs pk x0 m ||| 2 ^ (pk (xs pk x0 m))
theorem xs_0 (pk : Nat → Nat) (x0 : Nat) : xs pk x0 0 = x0 := rfl
theorem xs_s (pk : Nat → Nat) (x0 m : Nat) : xs pk x0 (m + 1) = xs pk x0 m ||| 2 ^ (pk (xs pk x0 m)) := rfl
theorem xs_s' (pk : Nat → Nat) (x0 : Nat) : ∀ m, xs pk x0 (m + 1) = xs pk (x0 ||| 2 ^ (pk x0)) m
  | 0 => rfl
  | m + 1 => by rw [xs_s, xs_s' pk x0 m, ← xs_s]
/-- a pick takes one that is left -/
def pkOk (pk : Nat → Nat) : Prop := ∀ x, x < 256 → pc8 x < 8 → pk x < 8 ∧ bt x (pk x) = 0
theorem xs_ok {pk : Nat → Nat} (h : pkOk pk) {x0 : Nat} (hx : x0 < 256) : ∀ m, pc8 x0 + m ≤ 8 → xs pk x0 m < 256 ∧ pc8 (xs pk x0 m) = pc8 x0 + m
  | 0, _ => ⟨hx, rfl⟩
  | m + 1, hm => by
    obtain ⟨h1, h2⟩ := xs_ok h hx m (by omega)
    obtain ⟨h3, h4⟩ := h _ h1 (by omega)
    exact ⟨or_pow_lt _ h1 _ h3, by rw [xs_s, pc8_or _ h1 _ h3 h4, h2]; omega⟩
theorem add_eq {c i x : Nat} (o : Nat → Int32) (hc : c < 8) (hi : i < 4) : f_X8_add (nI c) (nI i) (nI x) o = some (nI (i + 1), nI (x ||| 2 ^ c), upd o i (nI c)) := by
  unfold f_X8_add
  rw [if_neg (nI_nneg (by omega)), if_neg (by rw [le8 (by omega)]; omega), if_neg (by rw [show (4 : Int32) = nI 4 from rfl, nI_leI (by omega) (by omega)]; omega)]
  simp (disch := omega) only [ob_inN, nI_clamp, ob_sb, eq_self, if_true, if_false, nI_1, nI_add, pk_mul, pb_or1 hc]
theorem pick_eq {c i x : Nat} (o : Nat → Int32) (hc : c < 8) (hi : i < 8) : f_X11_pick (nI i) (nI c) (nI x) o = some (nI (x ||| 2 ^ c), upd o i (nI c)) := by
  unfold f_X11_pick
  simp (disch := omega) only [ob_inN, nI_clamp, ob_sb, eq_self, if_true, if_false, nI_1, nI_add, pk_mul, pb_or1 hc]
theorem picks_class {s : Nat} (hs4 : s ≤ 4) {pk : Nat → Nat} (hpk : pkOk pk) (lp : Nat → Int32 → Int32 → Int32 → (Nat → Int32) → Option (Int32 × Int32 × (Nat → Int32)))
    (hE : ∀ n c x o, lp (n + 1) (nI s) c x o = some (c, x, o))
    (hS : ∀ n i x o, i < s → x < 256 → pc8 x < 8 → lp (n + 1) (nI i) (nI i) (nI x) o = lp n (nI (i + 1)) (nI (i + 1)) (nI (x ||| 2 ^ (pk x))) (upd o i (nI (pk x)))) :
    ∀ d n i x o, i + d = s → d < n → x < 256 → pc8 x = i → ∃ o2, lp n (nI i) (nI i) (nI x) o = some (nI s, nI (xs pk x d), o2) ∧ (∀ j, j < i → o2 j = o j) ∧ ∀ j, j < d → o2 (i + j) = nI (pk (xs pk x j)) := by
  intro d
  induction d with
  | zero =>
    intro n i x o hi hn hx hp
    obtain ⟨n, rfl⟩ : ∃ m, n = m + 1 := ⟨n - 1, by omega⟩
    obtain rfl : i = s := by omega
    exact ⟨o, hE n _ _ _, fun _ _ => rfl, fun j hj => by omega⟩
  | succ d ih =>
    intro n i x o hi hn hx hp
    obtain ⟨n, rfl⟩ : ∃ m, n = m + 1 := ⟨n - 1, by omega⟩
    obtain ⟨h1, h2⟩ := hpk x hx (by omega)
    obtain ⟨o2, e1, e2, e3⟩ := ih n (i + 1) (x ||| 2 ^ (pk x)) (upd o i (nI (pk x))) (by omega) (by omega) (or_pow_lt _ hx _ h1) (by rw [pc8_or _ hx _ h1 h2, hp])
    refine ⟨o2, ?_, fun j hj => ?_, fun j hj => ?_⟩
    · rw [hS n i x o (by omega) hx (by omega), e1, xs_s']
    · rw [e2 j (by omega), pk_un (by omega)]
    · cases j with
      | zero => rw [Nat.add_zero, e2 i (by omega), pk_us, xs_0]
      | succ j =>
        have := e3 j (by omega)
        rw [show i + (j + 1) = i + 1 + j by omega, this, xs_s']
theorem pk8_ok (val : Nat → Nat → Nat) : pkOk (fun x => pk8 x (val x)) := fun x hx hp => ⟨(pk8_some (val x) hx hp).2.1, (pk8_some (val x) hx hp).2.2⟩
/-- MOST -/
abbrev pkM (k : Nat) (S P : Nat → Nat) : Nat → Nat := fun x => pk8 x (tel k S P)
/-- GREEDY -/
abbrev pkG (k : Nat) (S P w : Nat → Nat) : Nat → Nat := fun x => pk8 x (fun c => wor k S P w (x ||| 2 ^ c))
theorem pkM_ok (k : Nat) (S P : Nat → Nat) : pkOk (pkM k S P) := pk8_ok (fun _ => tel k S P)
theorem pkG_ok (k : Nat) (S P w : Nat → Nat) : pkOk (pkG k S P w) := pk8_ok (fun x c => wor k S P w (x ||| 2 ^ c))
theorem enc_pk {x : Nat} {val : Nat → Nat} (hx : x < 256) (hp : pc8 x < 8) : encN (am x val 8) = nI (pk8 x val) := by rw [(pk8_some val hx hp).1]; rfl
theorem le4 {a b : Nat} (ha : a ≤ 8) (hb : b ≤ 8) : nI a ≤ nI b ↔ a ≤ b := nI_leI (by omega) (by omega)
theorem byHeads_eq {cnt : Int32} {sets papers : Nat → Int32} {k : Nat} {S P : Nat → Nat} (h : hp cnt sets papers k S P) {s i x : Nat} (hs4 : s ≤ 4) (hi : i ≤ s) (hx : x < 256) (hp : pc8 x = i) (o : Nat → Int32) : ∃ o2, f_X8_byHeads (nI s) cnt (nI i) (nI x) papers sets o = some (nI s, nI (xs (pkM k S P) x (s - i)), o2) ∧ (∀ j, j < i → o2 j = o j) ∧ ∀ j, j < s - i → o2 (i + j) = nI (pkM k S P (xs (pkM k S P) x j)) := by
  obtain ⟨o2, e1, e2, e3⟩ := picks_class hs4 (pkM_ok k S P) (lp_X8_byHeads_5 (nI s) cnt papers sets)
    (fun n c x o => by rw [lp_X8_byHeads_5, if_pos ((le4 (by omega) (by omega)).mpr (Nat.le_refl _))])
    (fun n i x o hi hx hp => by
      rw [lp_X8_byHeads_5, if_neg (by rw [le4 (by omega) (by omega)]; omega), heads_pick h hx, ob_sb, enc_pk hx hp, add_eq o (pkM_ok k S P x hx hp).1 (by omega), ob_sb, nI_1])
    (s - i) FU i x o (by omega) (by unfold FU; omega) hx hp
  refine ⟨o2, ?_, e2, e3⟩
  unfold f_X8_byHeads
  rw [e1]
  rfl
theorem byWorth_eq {cnt : Int32} {sets papers : Nat → Int32} {k : Nat} {S P : Nat → Nat} (h : hp cnt sets papers k S P) {tg : Nat → Int32} {w : Nat → Nat} (ht : tgs tg w) (hw : ∀ n, n < 4 → w n ≤ 60) {s : Nat} (hs4 : s ≤ 4) (o : Nat → Int32) : ∃ o2, f_X8_byWorth (nI s) cnt (0 : Int32) (0 : Int32) papers sets tg o = some (nI s, nI (xs (pkG k S P w) 0 s), o2) ∧ ∀ j, j < s → o2 j = nI (pkG k S P w (xs (pkG k S P w) 0 j)) := by
  obtain ⟨o2, e1, -, e3⟩ := picks_class hs4 (pkG_ok k S P w) (lp_X8_byWorth_2 (nI s) cnt papers sets tg)
    (fun n c x o => by rw [lp_X8_byWorth_2, if_pos ((le4 (by omega) (by omega)).mpr (Nat.le_refl _))])
    (fun n i x o hi hx hp => by
      rw [lp_X8_byWorth_2, if_neg (by rw [le4 (by omega) (by omega)]; omega), worth_pick h ht hw hx, ob_sb, enc_pk hx hp, add_eq o (pkG_ok k S P w x hx hp).1 (by omega), ob_sb, nI_1])
    s FU 0 0 o (by omega) (by unfold FU; omega) (by omega) (by decide)
  refine ⟨o2, ?_, fun j hj => ?_⟩
  · unfold f_X8_byWorth
    rw [nI_0', e1]
    rfl
  · have := e3 j hj
    rw [Nat.zero_add] at this
    exact this
/-- the reference's picks, for a way that needs no fractions -/
theorem picks_model {cnt : Int32} {sets papers : Nat → Int32} {k : Nat} {S P : Nat → Nat} (h : hp cnt sets papers k S P) {wo : Nat → Int32} {w : Nat → Nat} (ht : wts wo w) (hw : ∀ n, n < 4 → w n ≤ 60) {s : Nat} (hs4 : s ≤ 4) {y1 : Int32} {pk : Nat → Nat} (hpk : pkOk pk) (hy4 : ¬ y1 = (4 : Int32)) (hc : (y1 = 0 ∧ pk = pkM k S P) ∨ (y1 = 1 ∧ pk = pkG k S P w) ∨ (y1 = 5 ∧ pk = pkG k S P w)) (pa : Int32) (ru rb : Int64) (lo up : Nat → Int64) :
    ∀ d n i x ch, i + d = s → d < n → x < 256 → pc8 x = i → ∃ c2, lp_X11_layWay_53 y1 cnt (nI s) papers sets wo n (nI i) (nI x) pa ru rb ch lo up = some (nI (xs pk x d), pa, ru, rb, c2, lo, up) ∧ (∀ j, j < i → c2 j = ch j) ∧ ∀ j, j < d → c2 (i + j) = nI (pk (xs pk x j)) := by
  intro d
  induction d with
  | zero =>
    intro n i x ch hi hn hx hp
    obtain ⟨n, rfl⟩ : ∃ m, n = m + 1 := ⟨n - 1, by omega⟩
    obtain rfl : i = s := by omega
    refine ⟨ch, ?_, fun _ _ => rfl, fun j hj => by omega⟩
    rw [lp_X11_layWay_53, if_pos ((le4 (by omega) (by omega)).mpr (Nat.le_refl _))]
    rfl
  | succ d ih =>
    intro n i x ch hi hn hx hp
    obtain ⟨n, rfl⟩ : ∃ m, n = m + 1 := ⟨n - 1, by omega⟩
    obtain ⟨h1, h2⟩ := hpk x hx (by omega)
    obtain ⟨o2, e1, e2, e3⟩ := ih n (i + 1) (x ||| 2 ^ (pk x)) (upd ch i (nI (pk x))) (by omega) (by omega) (or_pow_lt _ hx _ h1) (by rw [pc8_or _ hx _ h1 h2, hp])
    refine ⟨o2, ?_, fun j hj => ?_, fun j hj => ?_⟩
    · rw [lp_X11_layWay_53, if_neg (by rw [le4 (by omega) (by omega)]; omega), if_neg hy4, xs_s', ← e1]
      rcases hc with ⟨rfl, rfl⟩ | ⟨rfl, rfl⟩ | ⟨rfl, rfl⟩
      · rw [if_pos rfl, most_pick h hx, ob_sb, enc_pk hx (by omega), pick_eq ch h1 (by omega), ob_sb, nI_1]
      · rw [if_neg (by decide), if_pos rfl, greedy_pick h ht hw hx, ob_sb, enc_pk hx (by omega), pick_eq ch h1 (by omega), ob_sb, nI_1]
      · rw [if_neg (by decide), if_neg (by decide), if_pos rfl, greedy_pick h ht hw hx, ob_sb, enc_pk hx (by omega), pick_eq ch h1 (by omega), ob_sb, nI_1]
    · rw [e2 j (by omega), pk_un (by omega)]
    · cases j with
      | zero => rw [Nat.add_zero, e2 i (by omega), pk_us, xs_0]
      | succ j =>
        have := e3 j (by omega)
        rw [show i + (j + 1) = i + 1 + j by omega, this, xs_s']
