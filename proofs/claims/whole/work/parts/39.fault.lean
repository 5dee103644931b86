/-! THE FAULT -/
/-- the states: 0 a line begins, 1 to 8 behind a letter, 9 behind a comparison, 10 behind a digit -/
def stp (c s : Nat) : Option Nat :=
  if c = 10 then (if s = 59 then some 0 else none)
  else if c = 9 then (if 48 ≤ s ∧ s ≤ 52 then some 10 else none)
  else if 97 + c ≤ s ∧ s ≤ 104 then some (s - 96)
  else if c ≠ 0 ∧ (s = 60 ∨ s = 62) then some 9 else none
def stE : Option Nat → Int32
  | none => -1
  | some c => nI c
def M1 (c : Nat) : Int32 := if c = 0 then 0 else if c ≤ 8 then 1 else if c = 9 then 2 else 3
def M2 (c : Nat) : Int32 := if c = 0 then 0 else if c ≤ 8 then nI (96 + c) else 0
def mstep (y1 y2 s : Int32) : Option (Int32 × Int32) :=
  if y1 = 0 then (if 97 ≤ s ∧ s ≤ 104 then some (1, s) else none)
  else if y1 = 1 then (if (97 ≤ s ∧ s ≤ 104) ∧ ¬ s ≤ y2 then some (1, s) else if s = 60 ∨ s = 62 then some (2, 0) else none)
  else if y1 = 2 then (if 48 ≤ s ∧ s ≤ 52 then some (3, 0) else none)
  else if s = 59 then some (0, 0) else none
theorem stp_class : ∀ c, c < 11 → ∀ s, s < 128 → f_X7_step (nI c) (nI s) = some (stE (stp c s)) := by decide +kernel
theorem stp_model : ∀ c, c < 11 → ∀ s, s < 128 → mstep (M1 c) (M2 c) (nI s) = (stp c s).map (fun d => (M1 d, M2 d)) := by decide +kernel
theorem stp_lt : ∀ c, c < 11 → ∀ s, s < 128 → ∀ d, stp c s = some d → d < 11 := by
  intro c hc s hs d h
  unfold stp at h
  repeat' split at h
  all_goals first | (cases h; omega) | cases h
theorem in_cases (s lo hi : Int32) : ((lo ≤ s ∧ s ≤ hi) ∧ f_X11_in s lo hi = some 1) ∨ (¬ (lo ≤ s ∧ s ≤ hi) ∧ f_X11_in s lo hi = some 0) := by
  by_cases h : lo ≤ s ∧ s ≤ hi
  · exact Or.inl ⟨h, in_1 h.1 h.2⟩
  · refine Or.inr ⟨h, in_0 ?_⟩
    rw [fa_lt, fa_lt]
    rw [fa_le, fa_le] at h
    omega
theorem n10' : (((1 : Int32) = 0) = False) := eq_false (by decide)
theorem n00' : (((0 : Int32) = 0) = True) := eq_true rfl
theorem fault_step {vs : Int32} {sg : Nat → Int32} {k : Int32 → Option Int32} {n : Nat} {y1 y2 y3 : Int32} (h1 : ¬ vs ≤ y3) (h2 : ob_in y3 40 = true) : lp_X11_faultOf_6 vs sg k (n + 1) y1 y2 y3 = match mstep y1 y2 (sg y3.toNatClampNeg) with
    | none => some y3
    | some p => lp_X11_faultOf_6 vs sg k n p.1 p.2 (y3 + 1) := by
  rw [lp_X11_faultOf_6, if_neg h1, if_pos h2]
  generalize sg y3.toNatClampNeg = s
  unfold mstep
  have T : ∀ {c : Prop}, c → c = True := fun h => eq_true h
  rcases in_cases s 97 104 with ⟨a1, a3⟩ | ⟨a1, a3⟩
  · rw [a3]
    by_cases c0 : y1 = 0
    · simp only [ob_sb, n10', if_false, T c0, if_true, T a1, ite_self]
    · by_cases c1 : y1 = 1
      · by_cases d1 : s ≤ y2
        · by_cases e1 : s = 60
          · simp only [ob_sb, n10', if_false, eq_false c0, T c1, if_true, T d1, not_true, and_false, T e1, true_or]
          · by_cases e2 : s = 62
            · simp only [ob_sb, n10', if_false, eq_false c0, T c1, if_true, T d1, not_true, and_false, eq_false e1, T e2, false_or]
            · simp only [ob_sb, n10', if_false, eq_false c0, T c1, if_true, T d1, not_true, and_false, eq_false e1, eq_false e2, false_or]
        · simp only [ob_sb, n10', if_false, eq_false c0, T c1, if_true, eq_false d1, not_false_eq_true, and_true, T a1]
      · by_cases c2 : y1 = 2
        · rcases in_cases s 48 52 with ⟨b1, b3⟩ | ⟨b1, b3⟩ <;> rw [b3] <;> simp only [ob_sb, n10', n00', if_false, if_true, eq_false c0, eq_false c1, T c2, b1, and_self, ite_self]
        · by_cases e1 : s = 59
          · simp only [ob_sb, n10', if_false, if_true, eq_false c0, eq_false c1, eq_false c2, T e1, ite_self]
          · simp only [ob_sb, n10', if_false, if_true, eq_false c0, eq_false c1, eq_false c2, eq_false e1, ite_self]
  · rw [a3]
    by_cases c0 : y1 = 0
    · simp only [ob_sb, n00', if_true, T c0, eq_false a1, if_false]
    · by_cases c1 : y1 = 1
      · by_cases e1 : s = 60
        · simp only [ob_sb, n00', if_true, eq_false c0, if_false, T c1, eq_false a1, false_and, T e1, true_or]
        · by_cases e2 : s = 62
          · simp only [ob_sb, n00', if_true, eq_false c0, if_false, T c1, eq_false a1, false_and, eq_false e1, T e2, false_or]
          · simp only [ob_sb, n00', if_true, eq_false c0, if_false, T c1, eq_false a1, false_and, eq_false e1, eq_false e2, false_or]
      · by_cases c2 : y1 = 2
        · rcases in_cases s 48 52 with ⟨b1, b3⟩ | ⟨b1, b3⟩ <;> rw [b3] <;> simp only [ob_sb, n10', n00', if_false, if_true, eq_false c0, eq_false c1, T c2, b1, and_self]
        · by_cases e1 : s = 59
          · simp only [ob_sb, n00', if_false, if_true, eq_false c0, eq_false c1, eq_false c2, T e1]
          · simp only [ob_sb, n00', if_false, if_true, eq_false c0, eq_false c1, eq_false c2, eq_false e1]
/-- the state behind i signs -/
def rs (sg : Nat → Nat) : Nat → Option Nat
  | 0 => some 0
  | i + 1 => (rs sg i).bind (fun c => stp c (sg i))
theorem rs_s (sg : Nat → Nat) (i : Nat) : rs sg (i + 1) = (rs sg i).bind (fun c => stp c (sg i)) := rfl
theorem rs_none {sg : Nat → Nat} {i : Nat} (h : rs sg i = none) : ∀ n, rs sg (i + n) = none
  | 0 => h
  | n + 1 => by rw [← Nat.add_assoc, rs_s, rs_none h n]; rfl
/-- a text of t signs, as both keep it -/
def txt (vl : Int32) (signs : Nat → Int32) (t : Nat) (sg : Nat → Nat) : Prop := vl = nI t ∧ t ≤ 40 ∧ ∀ j, j < t → signs j = nI (sg j) ∧ sg j < 128
theorem rs_lt {sg : Nat → Nat} {t : Nat} (hs : ∀ j, j < t → sg j < 128) : ∀ i, i ≤ t → ∀ c, rs sg i = some c → c < 11
  | 0, _, c, h => by cases h; omega
  | i + 1, hi, c, h => by
    rw [rs_s] at h
    cases e : rs sg i with
    | none => rw [e] at h; cases h
    | some d =>
      rw [e, ob_sb] at h
      exact stp_lt d (rs_lt hs i (by omega) d e) _ (hs i (by omega)) c h
theorem le40 {a b : Nat} (ha : a ≤ 40) (hb : b ≤ 40) : nI a ≤ nI b ↔ a ≤ b := nI_leI (by omega) (by omega)
theorem M1_3 : ∀ c, c < 11 → (M1 c = (3 : Int32) ↔ c = 10) := by decide +kernel
/-- THE FAULT, both sides -/
theorem fault_eq {vl vm : Int32} {signs sign : Nat → Int32} {t : Nat} {sg : Nat → Nat} (h : txt vl signs t sg) (hm : txt vm sign t sg) : ∃ r, f_X7_firstFault vl signs = some r ∧ f_X11_faultOf vm sign = some r ∧ ((r = -6 ∧ rs sg t = some 10) ∨ (∃ m, r = nI m ∧ m ≤ 40 ∧ ¬ rs sg t = some 10)) := by
  obtain ⟨rfl, ht, hs⟩ := h
  obtain ⟨rfl, -, hs2⟩ := hm
  have h1 := up0 (k := t) (fun n i => ∀ c, c < 11 → rs sg i = some c → ∃ r, lp_X7_firstFault_4 (nI t) signs (fun q5 => (if q5 = (10 : Int32) then some (-6 : Int32) else some (nI t))) n (nI c) (nI i) = some r ∧ lp_X11_faultOf_6 (nI t) sign (fun q76 => (if q76 = (3 : Int32) then some (-6 : Int32) else some (nI t))) n (M1 c) (M2 c) (nI i) = some r ∧ ((r = -6 ∧ rs sg t = some 10) ∨ (∃ m, r = nI m ∧ m ≤ 40 ∧ ¬ rs sg t = some 10))) (by omega)
    (fun n c hc hr => by
      rw [lp_X7_firstFault_4, lp_X11_faultOf_6, if_pos ((le40 ht ht).mpr (Nat.le_refl _)), if_pos ((le40 ht ht).mpr (Nat.le_refl _))]
      by_cases q : c = 10
      · refine ⟨-6, by rw [if_pos (by rw [q]; rfl)], by rw [if_pos ((M1_3 c hc).mpr q)], Or.inl ⟨rfl, by rw [hr, q]⟩⟩
      · refine ⟨nI t, by rw [if_neg (by rw [show (10 : Int32) = nI 10 from rfl, nI_eq (by omega) (by omega)]; exact q)], by rw [if_neg (fun z => q ((M1_3 c hc).mp z))], Or.inr ⟨t, rfl, ht, fun z => q (by rw [hr] at z; cases z; rfl)⟩⟩)
    (fun n i hi ih c hc hr => by
      obtain ⟨s1, s2⟩ := hs i hi
      obtain ⟨s3, -⟩ := hs2 i hi
      rw [fault_step (by rw [le40 (by omega) (by omega)]; omega) (ob_inN (by omega) (by decide)), nI_clamp (by omega), s3, stp_model c hc _ s2]
      rw [lp_X7_firstFault_4, if_neg (by rw [le40 (by omega) (by omega)]; omega), if_pos (ob_inN (by omega) (by decide)), nI_clamp (by omega), s1, stp_class c hc _ s2, ob_sb, nI_1]
      cases e : stp c (sg i) with
      | none =>
        refine ⟨nI i, by rw [if_pos (show stE none = (-1 : Int32) from rfl)], rfl, Or.inr ⟨i, rfl, by omega, ?_⟩⟩
        have : rs sg (i + 1) = none := by rw [rs_s, hr, ob_sb, e]
        have h2 := rs_none this (t - (i + 1))
        rw [show i + 1 + (t - (i + 1)) = t by omega] at h2
        rw [h2]
        intro z
        cases z
      | some d =>
        have hd := stp_lt c hc _ s2 d e
        obtain ⟨r, e1, e2, e3⟩ := ih d hd (by rw [rs_s, hr, ob_sb, e])
        refine ⟨r, ?_, e2, e3⟩
        show (if nI d = (-1 : Int32) then _ else _) = _
        rw [if_neg (by
          rw [fa_eq, nI_toInt (by omega)]
          have : (-1 : Int32).toInt = -1 := by decide
          omega)]
        exact e1)
  obtain ⟨r, e1, e2, e3⟩ := h1 0 (by omega) rfl
  exact ⟨r, e1, e2, e3⟩
