abbrev rm_X10_isSet : Room := { frames := 0, cells := 0, slots := 0, locals := 0 }
abbrev wd_X10_isSet (cyI cyJ cyZ : ClassId) : va_W := []
def f_X10_isSet (x0 : Int32) : Option (Int32) := (if x0 < (1 : Int32) then some (0 : Int32) else (if (255 : Int32) < x0 then some (0 : Int32) else some (1 : Int32)))
set_option maxHeartbeats 4000000 in
set_option maxRecDepth 100000 in
theorem c_X10_isSet (l : Launch) (D : va_G) (cyI cyJ cyZ : ClassId) (x0 : Int32) (q : Int32) (hf : f_X10_isSet x0 = some q) : kMz l yX10_isSet wsX10_isSet rm_X10_isSet D (kTy cyI cyJ cyZ) [.int x0] (wd_X10_isSet cyI cyJ cyZ) (wd_X10_isSet cyI cyJ cyZ) q := by
  refine kMz_of (cc := cX10_isSet) (nL := 1) (own := RX10) (by decide) rfl rfl (Nat.le_of_ble_eq_true rfl) ?_
  intro p e s m below meth c A Q ls C hret hP hD hS hl
  have hl : lv_has ls 1 [(0, .int x0)] := hl
  unfold f_X10_isSet at hf
  obtain ⟨hx, hb, hml, hown, hts, hK, hA⟩ := id C
  refine lv_iload_n hx hb dX10_isSet_0 rfl (lv_at hl 0 rfl) ?_
  refine lv_iconst (v := (1 : Int32)) hx hb dX10_isSet_1 (by decide) ?_
  refine lv_icmp_lt (tgt := 16) hx hb dX10_isSet_2 (by decide) (fun c1 => ?_) (fun c1 => ?_)
  · have hf := ob_pos c1 hf
    refine lv_iconst (v := (0 : Int32)) hx hb dX10_isSet_16 (by decide) ?_
    obtain rfl := Option.some.inj hf
    exact hret _ _ _ _ narrow_b0 dX10_isSet_17 hP hD hS
  · have hf := ob_neg c1 hf
    refine lv_iload_n hx hb dX10_isSet_5 rfl (lv_at hl 0 rfl) ?_
    refine lv_sipush (v := (255 : Int32)) hx hb dX10_isSet_6 (by decide) ?_
    refine lv_icmp_gt (tgt := 16) hx hb dX10_isSet_9 (by decide) (fun c2 => ?_) (fun c2 => ?_)
    · have hf := ob_pos c2 hf
      refine lv_iconst (v := (0 : Int32)) hx hb dX10_isSet_16 (by decide) ?_
      obtain rfl := Option.some.inj hf
      exact hret _ _ _ _ narrow_b0 dX10_isSet_17 hP hD hS
    · have hf := ob_neg c2 hf
      refine lv_iconst (v := (1 : Int32)) hx hb dX10_isSet_12 (by decide) ?_
      refine lv_goto (tgt := 17) hx hb dX10_isSet_13 (by decide) ?_
      obtain rfl := Option.some.inj hf
      exact hret _ _ _ _ narrow_b1 dX10_isSet_17 hP hD hS
abbrev rm_X10_isPapers : Room := { frames := 0, cells := 0, slots := 0, locals := 0 }
abbrev wd_X10_isPapers (cyI cyJ cyZ : ClassId) : va_W := []
def f_X10_isPapers (x0 : Int32) : Option (Int32) := (if x0 < (1 : Int32) then some (0 : Int32) else (if (100 : Int32) < x0 then some (0 : Int32) else some (1 : Int32)))
set_option maxHeartbeats 4000000 in
set_option maxRecDepth 100000 in
theorem c_X10_isPapers (l : Launch) (D : va_G) (cyI cyJ cyZ : ClassId) (x0 : Int32) (q : Int32) (hf : f_X10_isPapers x0 = some q) : kMz l yX10_isPapers wsX10_isPapers rm_X10_isPapers D (kTy cyI cyJ cyZ) [.int x0] (wd_X10_isPapers cyI cyJ cyZ) (wd_X10_isPapers cyI cyJ cyZ) q := by
  refine kMz_of (cc := cX10_isPapers) (nL := 1) (own := RX10) (by decide) rfl rfl (Nat.le_of_ble_eq_true rfl) ?_
  intro p e s m below meth c A Q ls C hret hP hD hS hl
  have hl : lv_has ls 1 [(0, .int x0)] := hl
  unfold f_X10_isPapers at hf
  obtain ⟨hx, hb, hml, hown, hts, hK, hA⟩ := id C
  refine lv_iload_n hx hb dX10_isPapers_0 rfl (lv_at hl 0 rfl) ?_
  refine lv_iconst (v := (1 : Int32)) hx hb dX10_isPapers_1 (by decide) ?_
  refine lv_icmp_lt (tgt := 15) hx hb dX10_isPapers_2 (by decide) (fun c1 => ?_) (fun c1 => ?_)
  · have hf := ob_pos c1 hf
    refine lv_iconst (v := (0 : Int32)) hx hb dX10_isPapers_15 (by decide) ?_
    obtain rfl := Option.some.inj hf
    exact hret _ _ _ _ narrow_b0 dX10_isPapers_16 hP hD hS
  · have hf := ob_neg c1 hf
    refine lv_iload_n hx hb dX10_isPapers_5 rfl (lv_at hl 0 rfl) ?_
    refine lv_bipush (v := (100 : Int32)) hx hb dX10_isPapers_6 (by decide) ?_
    refine lv_icmp_gt (tgt := 15) hx hb dX10_isPapers_8 (by decide) (fun c2 => ?_) (fun c2 => ?_)
    · have hf := ob_pos c2 hf
      refine lv_iconst (v := (0 : Int32)) hx hb dX10_isPapers_15 (by decide) ?_
      obtain rfl := Option.some.inj hf
      exact hret _ _ _ _ narrow_b0 dX10_isPapers_16 hP hD hS
    · have hf := ob_neg c2 hf
      refine lv_iconst (v := (1 : Int32)) hx hb dX10_isPapers_11 (by decide) ?_
      refine lv_goto (tgt := 16) hx hb dX10_isPapers_12 (by decide) ?_
      obtain rfl := Option.some.inj hf
      exact hret _ _ _ _ narrow_b1 dX10_isPapers_16 hP hD hS
abbrev rm_X10_heap : Room := { frames := 1, cells := 0, slots := 0, locals := 22 }
abbrev wd_X10_heap (cyI cyJ cyZ : ClassId) (a_heaps a_heaps_sets a_heaps_papers a_worths a_this a_trial a_text a_lines a_lawful a_groups a_ways : Nat) (v_heaps_count : Int32) (v_seatCount : Int32) (v_heaps_papers : Nat → Int32) (v_heaps_sets : Nat → Int32) : va_W := [(a_heaps, .inr (2, [.ref a_heaps_sets, .ref a_heaps_papers, .ref a_worths, .int v_heaps_count])), (a_this, .inr (9, [.ref a_worths, .ref a_heaps, .ref a_trial, .ref a_text, .ref a_lines, .ref a_lawful, .ref a_groups, .ref a_ways, .int v_seatCount])), (a_heaps_papers, .inl (cyI, 7, .inl v_heaps_papers)), (a_heaps_sets, .inl (cyI, 7, .inl v_heaps_sets))]
def f_X10_heap (x1 : Int32) (x2 : Int32) (v_heaps_count : Int32) (v_heaps_papers : Nat → Int32) (v_heaps_sets : Nat → Int32) : Option (Int32 × Int32 × (Nat → Int32) × (Nat → Int32)) := (f_X10_isSet x1).bind (fun q1 => (if q1 = 0 then some ((-2 : Int32), v_heaps_count, v_heaps_papers, v_heaps_sets) else (f_X10_isPapers x2).bind (fun q3 => (if q3 = 0 then some ((-2 : Int32), v_heaps_count, v_heaps_papers, v_heaps_sets) else (if v_heaps_count < (6 : Int32) then (f_X3_append x1 x2 v_heaps_count v_heaps_papers v_heaps_sets).bind (fun q6 => some ((q6.1 - (1 : Int32)), q6.1, q6.2.1, q6.2.2)) else some ((-4 : Int32), v_heaps_count, v_heaps_papers, v_heaps_sets))))))
set_option maxHeartbeats 4000000 in
set_option maxRecDepth 100000 in
theorem c_X10_heap (l : Launch) (D : va_G) (cyI cyJ cyZ : ClassId) (a_heaps a_heaps_sets a_heaps_papers a_worths a_this a_trial a_text a_lines a_lawful a_groups a_ways : Nat) (v_heaps_count : Int32) (v_seatCount : Int32) (v_heaps_papers : Nat → Int32) (v_heaps_sets : Nat → Int32) (x1 : Int32) (x2 : Int32) (q : Int32 × Int32 × (Nat → Int32) × (Nat → Int32)) (hf : f_X10_heap x1 x2 v_heaps_count v_heaps_papers v_heaps_sets = some q) : kMi l yX10_heap wsX10_heap rm_X10_heap D (kTy cyI cyJ cyZ) [.ref a_this, .int x1, .int x2] (wd_X10_heap cyI cyJ cyZ a_heaps a_heaps_sets a_heaps_papers a_worths a_this a_trial a_text a_lines a_lawful a_groups a_ways v_heaps_count v_seatCount v_heaps_papers v_heaps_sets) (wd_X10_heap cyI cyJ cyZ a_heaps a_heaps_sets a_heaps_papers a_worths a_this a_trial a_text a_lines a_lawful a_groups a_ways q.2.1 v_seatCount q.2.2.1 q.2.2.2) q.1 := by
  refine kMi_of (cc := cX10_heap) (nL := 3) (own := RX10) (by decide) rfl rfl (Nat.le_of_ble_eq_true rfl) ?_
  intro p e s m below meth c A Q ls C hret hP hD hS hl
  have hl : lv_has ls 3 [(0, .ref a_this), (1, .int x1), (2, .int x2)] := hl
  unfold f_X10_heap at hf
  obtain ⟨hx, hb, hml, hown, hts, hK, hA⟩ := id C
  have iX10 : ∀ w ∈ u_ws RX10 TX10 9, w ∈ wsX10_heap := by decide +kernel
  have iX3 : ∀ w ∈ u_ws RX3 TX3 4, w ∈ wsX10_heap := by decide +kernel
  have fl21 := hts (.fieldLink RX10 21 "FairSeats" "heaps" "LFairSeats$Heaps;") (by decide +kernel)
  have fl76 := hts (.fieldLink RX10 76 "FairSeats$Heaps" "count" "I") (by decide +kernel)
  have cw69 := va_cwS (R := rm_X10_heap) (rm := rm_X10_isSet) 1 hts gX10_heap_X10_isSet rfl rfl rfl (by decide +kernel) ⟨Nat.le_of_ble_eq_true rfl, Nat.le_of_ble_eq_true rfl⟩
  have cw73 := va_cwS (R := rm_X10_heap) (rm := rm_X10_isPapers) 1 hts gX10_heap_X10_isPapers rfl rfl rfl (by decide +kernel) ⟨Nat.le_of_ble_eq_true rfl, Nat.le_of_ble_eq_true rfl⟩
  have cw79 := cwV (R := rm_X10_heap) (rm := rm_X3_append) 2 hts gX10_heap_X3_append rfl rfl rfl (by decide +kernel) ⟨Nat.le_of_ble_eq_true rfl, Nat.le_of_ble_eq_true rfl⟩
  refine lv_iload_n hx hb dX10_heap_0 rfl (lv_at hl 1 rfl) ?_
  obtain ⟨q1, hq1, hf⟩ := ob_bind hf
  refine k_Sz (wo := (wd_X10_heap cyI cyJ cyZ a_heaps a_heaps_sets a_heaps_papers a_worths a_this a_trial a_text a_lines a_lawful a_groups a_ways v_heaps_count v_seatCount v_heaps_papers v_heaps_sets)) (As := [.int x1]) (rest := []) C (c_X10_isSet l D cyI cyJ cyZ   x1 q1 hq1) cw69 hP hD hS [] [0, 1, 2, 3] [0, 1, 2, 3] rfl rfl rfl (by decide) rfl rfl hl.1 (Nat.le_of_ble_eq_true rfl) dX10_heap_1 ⟨Nat.zero_le _, Nat.zero_le _⟩ (fun H locs zq1 hP hD hS => ?_)
  refine lv_if_eq (tgt := 14) hx hb dX10_heap_4 (by decide) (fun c2 => ?_) (fun c2 => ?_)
  · have hf := ob_pos c2 hf
    refine lv_bipush (v := (-2 : Int32)) hx hb dX10_heap_14 (by decide) ?_
    obtain rfl := Option.some.inj hf
    exact hret _ _ _ _ dX10_heap_16 hP hD hS
  · have hf := ob_neg c2 hf
    refine lv_iload_n hx hb dX10_heap_7 rfl (lv_at hl 2 rfl) ?_
    obtain ⟨q3, hq3, hf⟩ := ob_bind hf
    refine k_Sz (wo := (wd_X10_heap cyI cyJ cyZ a_heaps a_heaps_sets a_heaps_papers a_worths a_this a_trial a_text a_lines a_lawful a_groups a_ways v_heaps_count v_seatCount v_heaps_papers v_heaps_sets)) (As := [.int x2]) (rest := []) C (c_X10_isPapers l D cyI cyJ cyZ   x2 q3 hq3) cw73 hP hD hS [] [0, 1, 2, 3] [0, 1, 2, 3] rfl rfl rfl (by decide) rfl rfl hl.1 (Nat.le_of_ble_eq_true rfl) dX10_heap_8 ⟨Nat.zero_le _, Nat.zero_le _⟩ (fun H locs zq3 hP hD hS => ?_)
    refine lv_if_ne (tgt := 17) hx hb dX10_heap_11 (by decide) (fun c4 => ?_) (fun c4 => ?_)
    · have hf := ob_neg c4 hf
      refine lv_aload_n hx hb dX10_heap_17 rfl (lv_at hl 0 rfl) ?_
      refine va_get (D := D) (ci := 9) (v := .ref a_heaps) (C := RX10) (T := TX10) (N := 9) hx hb hts iX10 hown hK hP 1 rfl rfl 1 (by decide) fl21 (fun _ h9 => h9) rfl dX10_heap_18 ?_
      refine va_get (D := D) (ci := 2) (v := .int v_heaps_count) (C := RX3) (T := TX3) (N := 4) hx hb hts iX3 hown hK hP 0 rfl rfl 3 (by decide) fl76 (fun _ h9 => h9) rfl dX10_heap_21 ?_
      refine lv_bipush (v := (6 : Int32)) hx hb dX10_heap_24 (by decide) ?_
      refine lv_icmp_lt (tgt := 32) hx hb dX10_heap_26 (by decide) (fun c5 => ?_) (fun c5 => ?_)
      · have hf := ob_pos c5 hf
        refine lv_aload_n hx hb dX10_heap_32 rfl (lv_at hl 0 rfl) ?_
        refine va_get (D := D) (ci := 9) (v := .ref a_heaps) (C := RX10) (T := TX10) (N := 9) hx hb hts iX10 hown hK hP 1 rfl rfl 1 (by decide) fl21 (fun _ h9 => h9) rfl dX10_heap_33 ?_
        refine lv_iload_n hx hb dX10_heap_36 rfl (lv_at hl 1 rfl) ?_
        refine lv_iload_n hx hb dX10_heap_37 rfl (lv_at hl 2 rfl) ?_
        obtain ⟨q6, hq6, hf⟩ := ob_bind hf
        refine k_Vv (wo := (wd_X10_heap cyI cyJ cyZ a_heaps a_heaps_sets a_heaps_papers a_worths a_this a_trial a_text a_lines a_lawful a_groups a_ways q6.1 v_seatCount q6.2.1 q6.2.2)) (As := [.int x1, .int x2]) (rest := []) C (c_X3_append l D cyI cyJ cyZ a_heaps a_heaps_sets a_heaps_papers a_worths v_heaps_count v_heaps_papers v_heaps_sets x1 x2 q6 hq6) cw79 hP hD hS [0, 2, 3] [1] [1, 0, 2, 3] rfl rfl rfl (by decide) 0 (ci := 2) rfl rfl rfl rfl rfl hl.1 (Nat.le_of_ble_eq_true rfl) dX10_heap_38 ⟨Nat.zero_le _, Nat.zero_le _⟩ (fun H locs hP hD hS => ?_)
        refine lv_aload_n hx hb dX10_heap_41 rfl (lv_at hl 0 rfl) ?_
        refine va_get (D := D) (ci := 9) (v := .ref a_heaps) (C := RX10) (T := TX10) (N := 9) hx hb hts iX10 hown hK hP 1 rfl rfl 1 (by decide) fl21 (fun _ h9 => h9) rfl dX10_heap_42 ?_
        refine va_get (D := D) (ci := 2) (v := .int q6.1) (C := RX3) (T := TX3) (N := 4) hx hb hts iX3 hown hK hP 0 rfl rfl 3 (by decide) fl76 (fun _ h9 => h9) rfl dX10_heap_45 ?_
        refine lv_iconst (v := (1 : Int32)) hx hb dX10_heap_48 (by decide) ?_
        refine lv_isub hx hb dX10_heap_49 ?_
        obtain rfl := Option.some.inj hf
        exact hret _ _ _ _ dX10_heap_50 hP hD hS
      · have hf := ob_neg c5 hf
        refine lv_bipush (v := (-4 : Int32)) hx hb dX10_heap_29 (by decide) ?_
        obtain rfl := Option.some.inj hf
        exact hret _ _ _ _ dX10_heap_31 hP hD hS
    · have hf := ob_pos c4 hf
      refine lv_bipush (v := (-2 : Int32)) hx hb dX10_heap_14 (by decide) ?_
      obtain rfl := Option.some.inj hf
      exact hret _ _ _ _ dX10_heap_16 hP hD hS
abbrev rm_X10_isHeap : Room := { frames := 0, cells := 0, slots := 0, locals := 0 }
abbrev wd_X10_isHeap (cyI cyJ cyZ : ClassId) (a_heaps a_heaps_sets a_heaps_papers a_worths a_this a_trial a_text a_lines a_lawful a_groups a_ways : Nat) (v_heaps_count : Int32) (v_seatCount : Int32) : va_W := [(a_heaps, .inr (2, [.ref a_heaps_sets, .ref a_heaps_papers, .ref a_worths, .int v_heaps_count])), (a_this, .inr (9, [.ref a_worths, .ref a_heaps, .ref a_trial, .ref a_text, .ref a_lines, .ref a_lawful, .ref a_groups, .ref a_ways, .int v_seatCount]))]
def f_X10_isHeap (x1 : Int32) (v_heaps_count : Int32) : Option (Int32) := (if x1 < 0 then some (0 : Int32) else (if v_heaps_count ≤ x1 then some (0 : Int32) else (if (6 : Int32) ≤ x1 then some (0 : Int32) else some (1 : Int32))))
set_option maxHeartbeats 4000000 in
set_option maxRecDepth 100000 in
theorem c_X10_isHeap (l : Launch) (D : va_G) (cyI cyJ cyZ : ClassId) (a_heaps a_heaps_sets a_heaps_papers a_worths a_this a_trial a_text a_lines a_lawful a_groups a_ways : Nat) (v_heaps_count : Int32) (v_seatCount : Int32) (x1 : Int32) (q : Int32) (hf : f_X10_isHeap x1 v_heaps_count = some q) : kMz l yX10_isHeap wsX10_isHeap rm_X10_isHeap D (kTy cyI cyJ cyZ) [.ref a_this, .int x1] (wd_X10_isHeap cyI cyJ cyZ a_heaps a_heaps_sets a_heaps_papers a_worths a_this a_trial a_text a_lines a_lawful a_groups a_ways v_heaps_count v_seatCount) (wd_X10_isHeap cyI cyJ cyZ a_heaps a_heaps_sets a_heaps_papers a_worths a_this a_trial a_text a_lines a_lawful a_groups a_ways v_heaps_count v_seatCount) q := by
  refine kMz_of (cc := cX10_isHeap) (nL := 2) (own := RX10) (by decide) rfl rfl (Nat.le_of_ble_eq_true rfl) ?_
  intro p e s m below meth c A Q ls C hret hP hD hS hl
  have hl : lv_has ls 2 [(0, .ref a_this), (1, .int x1)] := hl
  unfold f_X10_isHeap at hf
  obtain ⟨hx, hb, hml, hown, hts, hK, hA⟩ := id C
  have iX10 : ∀ w ∈ u_ws RX10 TX10 9, w ∈ wsX10_isHeap := by decide +kernel
  have iX3 : ∀ w ∈ u_ws RX3 TX3 4, w ∈ wsX10_isHeap := by decide +kernel
  have fl21 := hts (.fieldLink RX10 21 "FairSeats" "heaps" "LFairSeats$Heaps;") (by decide +kernel)
  have fl76 := hts (.fieldLink RX10 76 "FairSeats$Heaps" "count" "I") (by decide +kernel)
  refine lv_iload_n hx hb dX10_isHeap_0 rfl (lv_at hl 1 rfl) ?_
  refine lv_if_lt (tgt := 25) hx hb dX10_isHeap_1 (by decide) (fun c1 => ?_) (fun c1 => ?_)
  · have hf := ob_pos c1 hf
    refine lv_iconst (v := (0 : Int32)) hx hb dX10_isHeap_25 (by decide) ?_
    obtain rfl := Option.some.inj hf
    exact hret _ _ _ _ narrow_b0 dX10_isHeap_26 hP hD hS
  · have hf := ob_neg c1 hf
    refine lv_iload_n hx hb dX10_isHeap_4 rfl (lv_at hl 1 rfl) ?_
    refine lv_aload_n hx hb dX10_isHeap_5 rfl (lv_at hl 0 rfl) ?_
    refine va_get (D := D) (ci := 9) (v := .ref a_heaps) (C := RX10) (T := TX10) (N := 9) hx hb hts iX10 hown hK hP 1 rfl rfl 1 (by decide) fl21 (fun _ h9 => h9) rfl dX10_isHeap_6 ?_
    refine va_get (D := D) (ci := 2) (v := .int v_heaps_count) (C := RX3) (T := TX3) (N := 4) hx hb hts iX3 hown hK hP 0 rfl rfl 3 (by decide) fl76 (fun _ h9 => h9) rfl dX10_isHeap_9 ?_
    refine lv_icmp_ge (tgt := 25) hx hb dX10_isHeap_12 (by decide) (fun c2 => ?_) (fun c2 => ?_)
    · have hf := ob_pos c2 hf
      refine lv_iconst (v := (0 : Int32)) hx hb dX10_isHeap_25 (by decide) ?_
      obtain rfl := Option.some.inj hf
      exact hret _ _ _ _ narrow_b0 dX10_isHeap_26 hP hD hS
    · have hf := ob_neg c2 hf
      refine lv_iload_n hx hb dX10_isHeap_15 rfl (lv_at hl 1 rfl) ?_
      refine lv_bipush (v := (6 : Int32)) hx hb dX10_isHeap_16 (by decide) ?_
      refine lv_icmp_ge (tgt := 25) hx hb dX10_isHeap_18 (by decide) (fun c3 => ?_) (fun c3 => ?_)
      · have hf := ob_pos c3 hf
        refine lv_iconst (v := (0 : Int32)) hx hb dX10_isHeap_25 (by decide) ?_
        obtain rfl := Option.some.inj hf
        exact hret _ _ _ _ narrow_b0 dX10_isHeap_26 hP hD hS
      · have hf := ob_neg c3 hf
        refine lv_iconst (v := (1 : Int32)) hx hb dX10_isHeap_21 (by decide) ?_
        refine lv_goto (tgt := 26) hx hb dX10_isHeap_22 (by decide) ?_
        obtain rfl := Option.some.inj hf
        exact hret _ _ _ _ narrow_b1 dX10_isHeap_26 hP hD hS
abbrev rm_X10_change : Room := { frames := 1, cells := 0, slots := 0, locals := 21 }
abbrev wd_X10_change (cyI cyJ cyZ : ClassId) (a_heaps a_heaps_sets a_heaps_papers a_worths a_this a_trial a_text a_lines a_lawful a_groups a_ways : Nat) (v_heaps_count : Int32) (v_seatCount : Int32) (v_heaps_papers : Nat → Int32) (v_heaps_sets : Nat → Int32) : va_W := [(a_heaps, .inr (2, [.ref a_heaps_sets, .ref a_heaps_papers, .ref a_worths, .int v_heaps_count])), (a_this, .inr (9, [.ref a_worths, .ref a_heaps, .ref a_trial, .ref a_text, .ref a_lines, .ref a_lawful, .ref a_groups, .ref a_ways, .int v_seatCount])), (a_heaps_papers, .inl (cyI, 7, .inl v_heaps_papers)), (a_heaps_sets, .inl (cyI, 7, .inl v_heaps_sets))]
def f_X10_change (x1 : Int32) (x2 : Int32) (x3 : Int32) (v_heaps_count : Int32) (v_heaps_papers : Nat → Int32) (v_heaps_sets : Nat → Int32) : Option (Int32 × (Nat → Int32) × (Nat → Int32)) := (f_X10_isHeap x1 v_heaps_count).bind (fun q1 => (if q1 = 0 then some ((-1 : Int32), v_heaps_papers, v_heaps_sets) else (if x2 = 0 then (f_X10_isSet x3).bind (fun q9 => (if q9 = 0 then (if x2 = (1 : Int32) then (f_X10_isPapers x3).bind (fun q12 => (if q12 = 0 then some ((-2 : Int32), v_heaps_papers, v_heaps_sets) else (if ob_in x1 7 = true then (if ob_in x1 7 = true then some ((v_heaps_papers x1.toNatClampNeg), (upd v_heaps_papers x1.toNatClampNeg x3), v_heaps_sets) else none) else none))) else some ((-2 : Int32), v_heaps_papers, v_heaps_sets)) else (if ob_in x1 7 = true then (if ob_in x1 7 = true then some ((v_heaps_sets x1.toNatClampNeg), v_heaps_papers, (upd v_heaps_sets x1.toNatClampNeg x3)) else none) else none))) else (if x2 = (1 : Int32) then (f_X10_isPapers x3).bind (fun q5 => (if q5 = 0 then some ((-2 : Int32), v_heaps_papers, v_heaps_sets) else (if ob_in x1 7 = true then (if ob_in x1 7 = true then some ((v_heaps_papers x1.toNatClampNeg), (upd v_heaps_papers x1.toNatClampNeg x3), v_heaps_sets) else none) else none))) else some ((-2 : Int32), v_heaps_papers, v_heaps_sets)))))
set_option maxHeartbeats 4000000 in
set_option maxRecDepth 100000 in
theorem c_X10_change (l : Launch) (D : va_G) (cyI cyJ cyZ : ClassId) (a_heaps a_heaps_sets a_heaps_papers a_worths a_this a_trial a_text a_lines a_lawful a_groups a_ways : Nat) (v_heaps_count : Int32) (v_seatCount : Int32) (v_heaps_papers : Nat → Int32) (v_heaps_sets : Nat → Int32) (x1 : Int32) (x2 : Int32) (x3 : Int32) (q : Int32 × (Nat → Int32) × (Nat → Int32)) (hf : f_X10_change x1 x2 x3 v_heaps_count v_heaps_papers v_heaps_sets = some q) : kMi l yX10_change wsX10_change rm_X10_change D (kTy cyI cyJ cyZ) [.ref a_this, .int x1, .int x2, .int x3] (wd_X10_change cyI cyJ cyZ a_heaps a_heaps_sets a_heaps_papers a_worths a_this a_trial a_text a_lines a_lawful a_groups a_ways v_heaps_count v_seatCount v_heaps_papers v_heaps_sets) (wd_X10_change cyI cyJ cyZ a_heaps a_heaps_sets a_heaps_papers a_worths a_this a_trial a_text a_lines a_lawful a_groups a_ways v_heaps_count v_seatCount q.2.1 q.2.2) q.1 := by
  refine kMi_of (cc := cX10_change) (nL := 5) (own := RX10) (by decide) rfl rfl (Nat.le_of_ble_eq_true rfl) ?_
  intro p e s m below meth c A Q ls C hret hP hD hS hl
  have hl : lv_has ls 5 [(0, .ref a_this), (1, .int x1), (2, .int x2), (3, .int x3)] := hl
  unfold f_X10_change at hf
  obtain ⟨hx, hb, hml, hown, hts, hK, hA⟩ := id C
  have iX10 : ∀ w ∈ u_ws RX10 TX10 9, w ∈ wsX10_change := by decide +kernel
  have iX3 : ∀ w ∈ u_ws RX3 TX3 4, w ∈ wsX10_change := by decide +kernel
  have fl21 := hts (.fieldLink RX10 21 "FairSeats" "heaps" "LFairSeats$Heaps;") (by decide +kernel)
  have fl86 := hts (.fieldLink RX10 86 "FairSeats$Heaps" "sets" "[I") (by decide +kernel)
  have fl90 := hts (.fieldLink RX10 90 "FairSeats$Heaps" "papers" "[I") (by decide +kernel)
  have cw69 := va_cwS (R := rm_X10_change) (rm := rm_X10_isSet) 1 hts gX10_change_X10_isSet rfl rfl rfl (by decide +kernel) ⟨Nat.le_of_ble_eq_true rfl, Nat.le_of_ble_eq_true rfl⟩
  have cw73 := va_cwS (R := rm_X10_change) (rm := rm_X10_isPapers) 1 hts gX10_change_X10_isPapers rfl rfl rfl (by decide +kernel) ⟨Nat.le_of_ble_eq_true rfl, Nat.le_of_ble_eq_true rfl⟩
  have cw83 := cwV (R := rm_X10_change) (rm := rm_X10_isHeap) 1 hts gX10_change_X10_isHeap rfl rfl rfl (by decide +kernel) ⟨Nat.le_of_ble_eq_true rfl, Nat.le_of_ble_eq_true rfl⟩
  refine lv_aload_n hx hb dX10_change_0 rfl (lv_at hl 0 rfl) ?_
  refine lv_iload_n hx hb dX10_change_1 rfl (lv_at hl 1 rfl) ?_
  obtain ⟨q1, hq1, hf⟩ := ob_bind hf
  refine k_Vz (wo := (wd_X10_change cyI cyJ cyZ a_heaps a_heaps_sets a_heaps_papers a_worths a_this a_trial a_text a_lines a_lawful a_groups a_ways v_heaps_count v_seatCount v_heaps_papers v_heaps_sets)) (As := [.int x1]) (rest := []) C (c_X10_isHeap l D cyI cyJ cyZ a_heaps a_heaps_sets a_heaps_papers a_worths a_this a_trial a_text a_lines a_lawful a_groups a_ways v_heaps_count v_seatCount x1 q1 hq1) cw83 hP hD hS [0, 1] [2, 3] [2, 3, 0, 1] rfl rfl rfl (by decide) 1 (ci := 9) rfl rfl rfl rfl rfl hl.1 (Nat.le_of_ble_eq_true rfl) dX10_change_2 ⟨Nat.zero_le _, Nat.zero_le _⟩ (fun H locs zq1 hP hD hS => ?_)
  refine lv_if_ne (tgt := 10) hx hb dX10_change_5 (by decide) (fun c2 => ?_) (fun c2 => ?_)
  · have hf := ob_neg c2 hf
    refine lv_iload_n hx hb dX10_change_10 rfl (lv_at hl 2 rfl) ?_
    refine lv_if_ne (tgt := 45) hx hb dX10_change_11 (by decide) (fun c3 => ?_) (fun c3 => ?_)
    · have hf := ob_neg c3 hf
      refine lv_iload_n hx hb dX10_change_45 rfl (lv_at hl 2 rfl) ?_
      refine lv_iconst (v := (1 : Int32)) hx hb dX10_change_46 (by decide) ?_
      refine lv_icmp_ne (tgt := 81) hx hb dX10_change_47 (by decide) (fun c4 => ?_) (fun c4 => ?_)
      · have hf := ob_neg c4 hf
        refine lv_bipush (v := (-2 : Int32)) hx hb dX10_change_81 (by decide) ?_
        obtain rfl := Option.some.inj hf
        exact hret _ _ _ _ dX10_change_83 hP hD hS
      · have hf := ob_pos c4 hf
        refine lv_iload_n hx hb dX10_change_50 rfl (lv_at hl 3 rfl) ?_
        obtain ⟨q5, hq5, hf⟩ := ob_bind hf
        refine k_Sz (wo := (wd_X10_change cyI cyJ cyZ a_heaps a_heaps_sets a_heaps_papers a_worths a_this a_trial a_text a_lines a_lawful a_groups a_ways v_heaps_count v_seatCount v_heaps_papers v_heaps_sets)) (As := [.int x3]) (rest := []) C (c_X10_isPapers l D cyI cyJ cyZ   x3 q5 hq5) cw73 hP hD hS [] [0, 1, 2, 3] [0, 1, 2, 3] rfl rfl rfl (by decide) rfl rfl hl.1 (Nat.le_of_ble_eq_true rfl) dX10_change_51 ⟨Nat.zero_le _, Nat.zero_le _⟩ (fun H locs zq5 hP hD hS => ?_)
        refine lv_if_eq (tgt := 81) hx hb dX10_change_54 (by decide) (fun c6 => ?_) (fun c6 => ?_)
        · have hf := ob_pos c6 hf
          refine lv_bipush (v := (-2 : Int32)) hx hb dX10_change_81 (by decide) ?_
          obtain rfl := Option.some.inj hf
          exact hret _ _ _ _ dX10_change_83 hP hD hS
        · have hf := ob_neg c6 hf
          refine lv_aload_n hx hb dX10_change_57 rfl (lv_at hl 0 rfl) ?_
          refine va_get (D := D) (ci := 9) (v := .ref a_heaps) (C := RX10) (T := TX10) (N := 9) hx hb hts iX10 hown hK hP 1 rfl rfl 1 (by decide) fl21 (fun _ h9 => h9) rfl dX10_change_58 ?_
          refine va_get (D := D) (ci := 2) (v := .ref a_heaps_papers) (C := RX3) (T := TX3) (N := 4) hx hb hts iX3 hown hK hP 0 rfl rfl 1 (by decide) fl90 (fun _ h9 => h9) rfl dX10_change_61 ?_
          refine lv_iload_n hx hb dX10_change_64 rfl (lv_at hl 1 rfl) ?_
          obtain ⟨h7, hf⟩ := og_in hf
          refine va_iald hx hb hK hP 2 0 rfl rfl h7 dX10_change_65 ?_
          refine lv_istore (lv' := [(4, .int (v_heaps_papers x1.toNatClampNeg)), (0, .ref a_this), (1, .int x1), (2, .int x2), (3, .int x3)]) hx hb dX10_change_66 hl (by decide) rfl (fun ls hl => ?_)
          refine lv_aload_n hx hb dX10_change_68 rfl (lv_at hl 1 rfl) ?_
          refine va_get (D := D) (ci := 9) (v := .ref a_heaps) (C := RX10) (T := TX10) (N := 9) hx hb hts iX10 hown hK hP 1 rfl rfl 1 (by decide) fl21 (fun _ h9 => h9) rfl dX10_change_69 ?_
          refine va_get (D := D) (ci := 2) (v := .ref a_heaps_papers) (C := RX3) (T := TX3) (N := 4) hx hb hts iX3 hown hK hP 0 rfl rfl 1 (by decide) fl90 (fun _ h9 => h9) rfl dX10_change_72 ?_
          refine lv_iload_n hx hb dX10_change_75 rfl (lv_at hl 2 rfl) ?_
          refine lv_iload_n hx hb dX10_change_76 rfl (lv_at hl 4 rfl) ?_
          obtain ⟨h8, hf⟩ := og_in hf
          refine va_iast hx hb hK hP hD hS 2 0 rfl rfl h8 dX10_change_77 (fun H locs hP hD hS => ?_)
          have hP : va_P D vwCl (wd_X10_change cyI cyJ cyZ a_heaps a_heaps_sets a_heaps_papers a_worths a_this a_trial a_text a_lines a_lawful a_groups a_ways v_heaps_count v_seatCount (upd v_heaps_papers x1.toNatClampNeg x3) v_heaps_sets) H := hP
          have hD : va_D A (wd_X10_change cyI cyJ cyZ a_heaps a_heaps_sets a_heaps_papers a_worths a_this a_trial a_text a_lines a_lawful a_groups a_ways v_heaps_count v_seatCount (upd v_heaps_papers x1.toNatClampNeg x3) v_heaps_sets) := hD
          refine lv_iload hx hb dX10_change_78 (lv_at hl 0 rfl) ?_
          obtain rfl := Option.some.inj hf
          exact hret _ _ _ _ dX10_change_80 hP hD hS
    · have hf := ob_pos c3 hf
      refine lv_iload_n hx hb dX10_change_14 rfl (lv_at hl 3 rfl) ?_
      obtain ⟨q9, hq9, hf⟩ := ob_bind hf
      refine k_Sz (wo := (wd_X10_change cyI cyJ cyZ a_heaps a_heaps_sets a_heaps_papers a_worths a_this a_trial a_text a_lines a_lawful a_groups a_ways v_heaps_count v_seatCount v_heaps_papers v_heaps_sets)) (As := [.int x3]) (rest := []) C (c_X10_isSet l D cyI cyJ cyZ   x3 q9 hq9) cw69 hP hD hS [] [0, 1, 2, 3] [0, 1, 2, 3] rfl rfl rfl (by decide) rfl rfl hl.1 (Nat.le_of_ble_eq_true rfl) dX10_change_15 ⟨Nat.zero_le _, Nat.zero_le _⟩ (fun H locs zq9 hP hD hS => ?_)
      refine lv_if_eq (tgt := 45) hx hb dX10_change_18 (by decide) (fun c10 => ?_) (fun c10 => ?_)
      · have hf := ob_pos c10 hf
        refine lv_iload_n hx hb dX10_change_45 rfl (lv_at hl 2 rfl) ?_
        refine lv_iconst (v := (1 : Int32)) hx hb dX10_change_46 (by decide) ?_
        refine lv_icmp_ne (tgt := 81) hx hb dX10_change_47 (by decide) (fun c11 => ?_) (fun c11 => ?_)
        · have hf := ob_neg c11 hf
          refine lv_bipush (v := (-2 : Int32)) hx hb dX10_change_81 (by decide) ?_
          obtain rfl := Option.some.inj hf
          exact hret _ _ _ _ dX10_change_83 hP hD hS
        · have hf := ob_pos c11 hf
          refine lv_iload_n hx hb dX10_change_50 rfl (lv_at hl 3 rfl) ?_
          obtain ⟨q12, hq12, hf⟩ := ob_bind hf
          refine k_Sz (wo := (wd_X10_change cyI cyJ cyZ a_heaps a_heaps_sets a_heaps_papers a_worths a_this a_trial a_text a_lines a_lawful a_groups a_ways v_heaps_count v_seatCount v_heaps_papers v_heaps_sets)) (As := [.int x3]) (rest := []) C (c_X10_isPapers l D cyI cyJ cyZ   x3 q12 hq12) cw73 hP hD hS [] [0, 1, 2, 3] [0, 1, 2, 3] rfl rfl rfl (by decide) rfl rfl hl.1 (Nat.le_of_ble_eq_true rfl) dX10_change_51 ⟨Nat.zero_le _, Nat.zero_le _⟩ (fun H locs zq12 hP hD hS => ?_)
          refine lv_if_eq (tgt := 81) hx hb dX10_change_54 (by decide) (fun c13 => ?_) (fun c13 => ?_)
          · have hf := ob_pos c13 hf
            refine lv_bipush (v := (-2 : Int32)) hx hb dX10_change_81 (by decide) ?_
            obtain rfl := Option.some.inj hf
            exact hret _ _ _ _ dX10_change_83 hP hD hS
          · have hf := ob_neg c13 hf
            refine lv_aload_n hx hb dX10_change_57 rfl (lv_at hl 0 rfl) ?_
            refine va_get (D := D) (ci := 9) (v := .ref a_heaps) (C := RX10) (T := TX10) (N := 9) hx hb hts iX10 hown hK hP 1 rfl rfl 1 (by decide) fl21 (fun _ h9 => h9) rfl dX10_change_58 ?_
            refine va_get (D := D) (ci := 2) (v := .ref a_heaps_papers) (C := RX3) (T := TX3) (N := 4) hx hb hts iX3 hown hK hP 0 rfl rfl 1 (by decide) fl90 (fun _ h9 => h9) rfl dX10_change_61 ?_
            refine lv_iload_n hx hb dX10_change_64 rfl (lv_at hl 1 rfl) ?_
            obtain ⟨h14, hf⟩ := og_in hf
            refine va_iald hx hb hK hP 2 0 rfl rfl h14 dX10_change_65 ?_
            refine lv_istore (lv' := [(4, .int (v_heaps_papers x1.toNatClampNeg)), (0, .ref a_this), (1, .int x1), (2, .int x2), (3, .int x3)]) hx hb dX10_change_66 hl (by decide) rfl (fun ls hl => ?_)
            refine lv_aload_n hx hb dX10_change_68 rfl (lv_at hl 1 rfl) ?_
            refine va_get (D := D) (ci := 9) (v := .ref a_heaps) (C := RX10) (T := TX10) (N := 9) hx hb hts iX10 hown hK hP 1 rfl rfl 1 (by decide) fl21 (fun _ h9 => h9) rfl dX10_change_69 ?_
            refine va_get (D := D) (ci := 2) (v := .ref a_heaps_papers) (C := RX3) (T := TX3) (N := 4) hx hb hts iX3 hown hK hP 0 rfl rfl 1 (by decide) fl90 (fun _ h9 => h9) rfl dX10_change_72 ?_
            refine lv_iload_n hx hb dX10_change_75 rfl (lv_at hl 2 rfl) ?_
            refine lv_iload_n hx hb dX10_change_76 rfl (lv_at hl 4 rfl) ?_
            obtain ⟨h15, hf⟩ := og_in hf
            refine va_iast hx hb hK hP hD hS 2 0 rfl rfl h15 dX10_change_77 (fun H locs hP hD hS => ?_)
            have hP : va_P D vwCl (wd_X10_change cyI cyJ cyZ a_heaps a_heaps_sets a_heaps_papers a_worths a_this a_trial a_text a_lines a_lawful a_groups a_ways v_heaps_count v_seatCount (upd v_heaps_papers x1.toNatClampNeg x3) v_heaps_sets) H := hP
            have hD : va_D A (wd_X10_change cyI cyJ cyZ a_heaps a_heaps_sets a_heaps_papers a_worths a_this a_trial a_text a_lines a_lawful a_groups a_ways v_heaps_count v_seatCount (upd v_heaps_papers x1.toNatClampNeg x3) v_heaps_sets) := hD
            refine lv_iload hx hb dX10_change_78 (lv_at hl 0 rfl) ?_
            obtain rfl := Option.some.inj hf
            exact hret _ _ _ _ dX10_change_80 hP hD hS
      · have hf := ob_neg c10 hf
        refine lv_aload_n hx hb dX10_change_21 rfl (lv_at hl 0 rfl) ?_
        refine va_get (D := D) (ci := 9) (v := .ref a_heaps) (C := RX10) (T := TX10) (N := 9) hx hb hts iX10 hown hK hP 1 rfl rfl 1 (by decide) fl21 (fun _ h9 => h9) rfl dX10_change_22 ?_
        refine va_get (D := D) (ci := 2) (v := .ref a_heaps_sets) (C := RX3) (T := TX3) (N := 4) hx hb hts iX3 hown hK hP 0 rfl rfl 0 (by decide) fl86 (fun _ h9 => h9) rfl dX10_change_25 ?_
        refine lv_iload_n hx hb dX10_change_28 rfl (lv_at hl 1 rfl) ?_
        obtain ⟨h16, hf⟩ := og_in hf
        refine va_iald hx hb hK hP 3 0 rfl rfl h16 dX10_change_29 ?_
        refine lv_istore (lv' := [(4, .int (v_heaps_sets x1.toNatClampNeg)), (0, .ref a_this), (1, .int x1), (2, .int x2), (3, .int x3)]) hx hb dX10_change_30 hl (by decide) rfl (fun ls hl => ?_)
        refine lv_aload_n hx hb dX10_change_32 rfl (lv_at hl 1 rfl) ?_
        refine va_get (D := D) (ci := 9) (v := .ref a_heaps) (C := RX10) (T := TX10) (N := 9) hx hb hts iX10 hown hK hP 1 rfl rfl 1 (by decide) fl21 (fun _ h9 => h9) rfl dX10_change_33 ?_
        refine va_get (D := D) (ci := 2) (v := .ref a_heaps_sets) (C := RX3) (T := TX3) (N := 4) hx hb hts iX3 hown hK hP 0 rfl rfl 0 (by decide) fl86 (fun _ h9 => h9) rfl dX10_change_36 ?_
        refine lv_iload_n hx hb dX10_change_39 rfl (lv_at hl 2 rfl) ?_
        refine lv_iload_n hx hb dX10_change_40 rfl (lv_at hl 4 rfl) ?_
        obtain ⟨h17, hf⟩ := og_in hf
        refine va_iast hx hb hK hP hD hS 3 0 rfl rfl h17 dX10_change_41 (fun H locs hP hD hS => ?_)
        have hP : va_P D vwCl (wd_X10_change cyI cyJ cyZ a_heaps a_heaps_sets a_heaps_papers a_worths a_this a_trial a_text a_lines a_lawful a_groups a_ways v_heaps_count v_seatCount v_heaps_papers (upd v_heaps_sets x1.toNatClampNeg x3)) H := hP
        have hD : va_D A (wd_X10_change cyI cyJ cyZ a_heaps a_heaps_sets a_heaps_papers a_worths a_this a_trial a_text a_lines a_lawful a_groups a_ways v_heaps_count v_seatCount v_heaps_papers (upd v_heaps_sets x1.toNatClampNeg x3)) := hD
        refine lv_iload hx hb dX10_change_42 (lv_at hl 0 rfl) ?_
        obtain rfl := Option.some.inj hf
        exact hret _ _ _ _ dX10_change_44 hP hD hS
  · have hf := ob_pos c2 hf
    refine lv_iconst (v := (-1 : Int32)) hx hb dX10_change_8 (by decide) ?_
    obtain rfl := Option.some.inj hf
    exact hret _ _ _ _ dX10_change_9 hP hD hS
abbrev rm_X10_drop : Room := { frames := 0, cells := 0, slots := 0, locals := 0 }
abbrev wd_X10_drop (cyI cyJ cyZ : ClassId) (a_heaps a_heaps_sets a_heaps_papers a_worths a_this a_trial a_text a_lines a_lawful a_groups a_ways : Nat) (v_heaps_count : Int32) (v_seatCount : Int32) : va_W := [(a_heaps, .inr (2, [.ref a_heaps_sets, .ref a_heaps_papers, .ref a_worths, .int v_heaps_count])), (a_this, .inr (9, [.ref a_worths, .ref a_heaps, .ref a_trial, .ref a_text, .ref a_lines, .ref a_lawful, .ref a_groups, .ref a_ways, .int v_seatCount]))]
def f_X10_drop (v_heaps_count : Int32) : Option (Int32 × Int32) := (if 0 < v_heaps_count then some ((v_heaps_count - (1 : Int32)), (v_heaps_count - (1 : Int32))) else some ((-5 : Int32), v_heaps_count))
set_option maxHeartbeats 4000000 in
set_option maxRecDepth 100000 in
theorem c_X10_drop (l : Launch) (D : va_G) (cyI cyJ cyZ : ClassId) (a_heaps a_heaps_sets a_heaps_papers a_worths a_this a_trial a_text a_lines a_lawful a_groups a_ways : Nat) (v_heaps_count : Int32) (v_seatCount : Int32) (q : Int32 × Int32) (hf : f_X10_drop v_heaps_count = some q) : kMi l yX10_drop wsX10_drop rm_X10_drop D (kTy cyI cyJ cyZ) [.ref a_this] (wd_X10_drop cyI cyJ cyZ a_heaps a_heaps_sets a_heaps_papers a_worths a_this a_trial a_text a_lines a_lawful a_groups a_ways v_heaps_count v_seatCount) (wd_X10_drop cyI cyJ cyZ a_heaps a_heaps_sets a_heaps_papers a_worths a_this a_trial a_text a_lines a_lawful a_groups a_ways q.2 v_seatCount) q.1 := by
  refine kMi_of (cc := cX10_drop) (nL := 1) (own := RX10) (by decide) rfl rfl (Nat.le_of_ble_eq_true rfl) ?_
  intro p e s m below meth c A Q ls C hret hP hD hS hl
  have hl : lv_has ls 1 [(0, .ref a_this)] := hl
  unfold f_X10_drop at hf
  obtain ⟨hx, hb, hml, hown, hts, hK, hA⟩ := id C
  have iX10 : ∀ w ∈ u_ws RX10 TX10 9, w ∈ wsX10_drop := by decide +kernel
  have iX3 : ∀ w ∈ u_ws RX3 TX3 4, w ∈ wsX10_drop := by decide +kernel
  have fl21 := hts (.fieldLink RX10 21 "FairSeats" "heaps" "LFairSeats$Heaps;") (by decide +kernel)
  have fl76 := hts (.fieldLink RX10 76 "FairSeats$Heaps" "count" "I") (by decide +kernel)
  refine lv_aload_n hx hb dX10_drop_0 rfl (lv_at hl 0 rfl) ?_
  refine va_get (D := D) (ci := 9) (v := .ref a_heaps) (C := RX10) (T := TX10) (N := 9) hx hb hts iX10 hown hK hP 1 rfl rfl 1 (by decide) fl21 (fun _ h9 => h9) rfl dX10_drop_1 ?_
  refine va_get (D := D) (ci := 2) (v := .int v_heaps_count) (C := RX3) (T := TX3) (N := 4) hx hb hts iX3 hown hK hP 0 rfl rfl 3 (by decide) fl76 (fun _ h9 => h9) rfl dX10_drop_4 ?_
  refine lv_if_gt (tgt := 13) hx hb dX10_drop_7 (by decide) (fun c1 => ?_) (fun c1 => ?_)
  · have hf := ob_pos c1 hf
    refine lv_aload_n hx hb dX10_drop_13 rfl (lv_at hl 0 rfl) ?_
    refine va_get (D := D) (ci := 9) (v := .ref a_heaps) (C := RX10) (T := TX10) (N := 9) hx hb hts iX10 hown hK hP 1 rfl rfl 1 (by decide) fl21 (fun _ h9 => h9) rfl dX10_drop_14 ?_
    refine lv_dup hx hb dX10_drop_17 rfl ?_
    refine va_get (D := D) (ci := 2) (v := .int v_heaps_count) (C := RX3) (T := TX3) (N := 4) hx hb hts iX3 hown hK hP 0 rfl rfl 3 (by decide) fl76 (fun _ h9 => h9) rfl dX10_drop_18 ?_
    refine lv_iconst (v := (1 : Int32)) hx hb dX10_drop_21 (by decide) ?_
    refine lv_isub hx hb dX10_drop_22 ?_
    refine va_put (D := D) (ci := 2) (v := .int (v_heaps_count - (1 : Int32))) (ty := .int) (C := RX3) (T := TX3) (N := 4) hx hb hts iX3 tyX3 tyX3_ok nmX3 hown hK hP hD hS 0 rfl rfl 3 (by decide) fl76 (fun _ h9 => h9) rfl (by decide +kernel) rfl rfl (Nat.le_of_ble_eq_true rfl) dX10_drop_23 (fun H locs hP hD hS => ?_)
    have hP : va_P D vwCl (wd_X10_drop cyI cyJ cyZ a_heaps a_heaps_sets a_heaps_papers a_worths a_this a_trial a_text a_lines a_lawful a_groups a_ways (v_heaps_count - (1 : Int32)) v_seatCount) H := hP
    have hD : va_D A (wd_X10_drop cyI cyJ cyZ a_heaps a_heaps_sets a_heaps_papers a_worths a_this a_trial a_text a_lines a_lawful a_groups a_ways (v_heaps_count - (1 : Int32)) v_seatCount) := hD
    refine lv_aload_n hx hb dX10_drop_26 rfl (lv_at hl 0 rfl) ?_
    refine va_get (D := D) (ci := 9) (v := .ref a_heaps) (C := RX10) (T := TX10) (N := 9) hx hb hts iX10 hown hK hP 1 rfl rfl 1 (by decide) fl21 (fun _ h9 => h9) rfl dX10_drop_27 ?_
    refine va_get (D := D) (ci := 2) (v := .int (v_heaps_count - (1 : Int32))) (C := RX3) (T := TX3) (N := 4) hx hb hts iX3 hown hK hP 0 rfl rfl 3 (by decide) fl76 (fun _ h9 => h9) rfl dX10_drop_30 ?_
    obtain rfl := Option.some.inj hf
    exact hret _ _ _ _ dX10_drop_33 hP hD hS
  · have hf := ob_neg c1 hf
    refine lv_bipush (v := (-5 : Int32)) hx hb dX10_drop_10 (by decide) ?_
    obtain rfl := Option.some.inj hf
    exact hret _ _ _ _ dX10_drop_12 hP hD hS
abbrev rm_X10_seats : Room := { frames := 0, cells := 0, slots := 0, locals := 0 }
abbrev wd_X10_seats (cyI cyJ cyZ : ClassId) (a_this a_worths a_heaps a_trial a_text a_lines a_lawful a_groups a_ways : Nat) (v_seatCount : Int32) : va_W := [(a_this, .inr (9, [.ref a_worths, .ref a_heaps, .ref a_trial, .ref a_text, .ref a_lines, .ref a_lawful, .ref a_groups, .ref a_ways, .int v_seatCount]))]
def f_X10_seats (x1 : Int32) (v_seatCount : Int32) : Option (Int32 × Int32) := (if x1 < (1 : Int32) then some ((-2 : Int32), v_seatCount) else (if x1 ≤ (4 : Int32) then some (v_seatCount, x1) else some ((-2 : Int32), v_seatCount)))
set_option maxHeartbeats 4000000 in
set_option maxRecDepth 100000 in
theorem c_X10_seats (l : Launch) (D : va_G) (cyI cyJ cyZ : ClassId) (a_this a_worths a_heaps a_trial a_text a_lines a_lawful a_groups a_ways : Nat) (v_seatCount : Int32) (x1 : Int32) (q : Int32 × Int32) (hf : f_X10_seats x1 v_seatCount = some q) : kMi l yX10_seats wsX10_seats rm_X10_seats D (kTy cyI cyJ cyZ) [.ref a_this, .int x1] (wd_X10_seats cyI cyJ cyZ a_this a_worths a_heaps a_trial a_text a_lines a_lawful a_groups a_ways v_seatCount) (wd_X10_seats cyI cyJ cyZ a_this a_worths a_heaps a_trial a_text a_lines a_lawful a_groups a_ways q.2) q.1 := by
  refine kMi_of (cc := cX10_seats) (nL := 3) (own := RX10) (by decide) rfl rfl (Nat.le_of_ble_eq_true rfl) ?_
  intro p e s m below meth c A Q ls C hret hP hD hS hl
  have hl : lv_has ls 3 [(0, .ref a_this), (1, .int x1)] := hl
  unfold f_X10_seats at hf
  obtain ⟨hx, hb, hml, hown, hts, hK, hA⟩ := id C
  have iX10 : ∀ w ∈ u_ws RX10 TX10 9, w ∈ wsX10_seats := by decide +kernel
  have fl65 := hts (.fieldLink RX10 65 "FairSeats" "seatCount" "I") (by decide +kernel)
  refine lv_iload_n hx hb dX10_seats_0 rfl (lv_at hl 1 rfl) ?_
  refine lv_iconst (v := (1 : Int32)) hx hb dX10_seats_1 (by decide) ?_
  refine lv_icmp_lt (tgt := 10) hx hb dX10_seats_2 (by decide) (fun c1 => ?_) (fun c1 => ?_)
  · have hf := ob_pos c1 hf
    refine lv_bipush (v := (-2 : Int32)) hx hb dX10_seats_10 (by decide) ?_
    obtain rfl := Option.some.inj hf
    exact hret _ _ _ _ dX10_seats_12 hP hD hS
  · have hf := ob_neg c1 hf
    refine lv_iload_n hx hb dX10_seats_5 rfl (lv_at hl 1 rfl) ?_
    refine lv_iconst (v := (4 : Int32)) hx hb dX10_seats_6 (by decide) ?_
    refine lv_icmp_le (tgt := 13) hx hb dX10_seats_7 (by decide) (fun c2 => ?_) (fun c2 => ?_)
    · have hf := ob_pos c2 hf
      refine lv_aload_n hx hb dX10_seats_13 rfl (lv_at hl 0 rfl) ?_
      refine va_get (D := D) (ci := 9) (v := .int v_seatCount) (C := RX10) (T := TX10) (N := 9) hx hb hts iX10 hown hK hP 0 rfl rfl 8 (by decide) fl65 (fun _ h9 => h9) rfl dX10_seats_14 ?_
      refine lv_istore_n (lv' := [(2, .int v_seatCount), (0, .ref a_this), (1, .int x1)]) hx hb dX10_seats_17 rfl hl (by decide) rfl (fun ls hl => ?_)
      refine lv_aload_n hx hb dX10_seats_18 rfl (lv_at hl 1 rfl) ?_
      refine lv_iload_n hx hb dX10_seats_19 rfl (lv_at hl 2 rfl) ?_
      refine va_put (D := D) (ci := 9) (v := .int x1) (ty := .int) (C := RX10) (T := TX10) (N := 9) hx hb hts iX10 tyX10 tyX10_ok nmX10 hown hK hP hD hS 0 rfl rfl 8 (by decide) fl65 (fun _ h9 => h9) rfl (by decide +kernel) rfl rfl (Nat.le_of_ble_eq_true rfl) dX10_seats_20 (fun H locs hP hD hS => ?_)
      have hP : va_P D vwCl (wd_X10_seats cyI cyJ cyZ a_this a_worths a_heaps a_trial a_text a_lines a_lawful a_groups a_ways x1) H := hP
      have hD : va_D A (wd_X10_seats cyI cyJ cyZ a_this a_worths a_heaps a_trial a_text a_lines a_lawful a_groups a_ways x1) := hD
      refine lv_iload_n hx hb dX10_seats_23 rfl (lv_at hl 0 rfl) ?_
      obtain rfl := Option.some.inj hf
      exact hret _ _ _ _ dX10_seats_24 hP hD hS
    · have hf := ob_neg c2 hf
      refine lv_bipush (v := (-2 : Int32)) hx hb dX10_seats_10 (by decide) ?_
      obtain rfl := Option.some.inj hf
      exact hret _ _ _ _ dX10_seats_12 hP hD hS
abbrev rm_X10_worth : Room := { frames := 2, cells := 0, slots := 0, locals := 43 }
abbrev wd_X10_worth (cyI cyJ cyZ : ClassId) (a_this a_worths a_heaps a_trial a_text a_lines a_lawful a_groups a_ways a_worths_each a_worths_together : Nat) (v_seatCount : Int32) (v_worths_each : Nat → Int32) (v_worths_together : Nat → Int32) : va_W := [(a_this, .inr (9, [.ref a_worths, .ref a_heaps, .ref a_trial, .ref a_text, .ref a_lines, .ref a_lawful, .ref a_groups, .ref a_ways, .int v_seatCount])), (a_worths, .inr (8, [.ref a_worths_each, .ref a_worths_together])), (a_worths_each, .inl (cyI, 4, .inl v_worths_each)), (a_worths_together, .inl (cyI, 9, .inl v_worths_together))]
def f_X10_worth (x1 : Int32) (x2 : Int32) (v_worths_each : Nat → Int32) (v_worths_together : Nat → Int32) : Option (Int32 × (Nat → Int32) × (Nat → Int32)) := (if x1 < 0 then some ((-2 : Int32), v_worths_each, v_worths_together) else (if (4 : Int32) ≤ x1 then some ((-2 : Int32), v_worths_each, v_worths_together) else (f_X9_fits x1 x2 v_worths_each).bind (fun q3 => (if q3 = 0 then some ((-2 : Int32), v_worths_each, v_worths_together) else (if ob_in x1 4 = true then (f_X9_put x1 x2 v_worths_each v_worths_together).bind (fun q6 => some ((v_worths_each x1.toNatClampNeg), q6.1, q6.2)) else none)))))
set_option maxHeartbeats 4000000 in
set_option maxRecDepth 100000 in
theorem c_X10_worth (l : Launch) (D : va_G) (cyI cyJ cyZ : ClassId) (a_this a_worths a_heaps a_trial a_text a_lines a_lawful a_groups a_ways a_worths_each a_worths_together : Nat) (v_seatCount : Int32) (v_worths_each : Nat → Int32) (v_worths_together : Nat → Int32) (x1 : Int32) (x2 : Int32) (q : Int32 × (Nat → Int32) × (Nat → Int32)) (hf : f_X10_worth x1 x2 v_worths_each v_worths_together = some q) : kMi l yX10_worth wsX10_worth rm_X10_worth D (kTy cyI cyJ cyZ) [.ref a_this, .int x1, .int x2] (wd_X10_worth cyI cyJ cyZ a_this a_worths a_heaps a_trial a_text a_lines a_lawful a_groups a_ways a_worths_each a_worths_together v_seatCount v_worths_each v_worths_together) (wd_X10_worth cyI cyJ cyZ a_this a_worths a_heaps a_trial a_text a_lines a_lawful a_groups a_ways a_worths_each a_worths_together v_seatCount q.2.1 q.2.2) q.1 := by
  refine kMi_of (cc := cX10_worth) (nL := 4) (own := RX10) (by decide) rfl rfl (Nat.le_of_ble_eq_true rfl) ?_
  intro p e s m below meth c A Q ls C hret hP hD hS hl
  have hl : lv_has ls 4 [(0, .ref a_this), (1, .int x1), (2, .int x2)] := hl
  unfold f_X10_worth at hf
  obtain ⟨hx, hb, hml, hown, hts, hK, hA⟩ := id C
  have iX10 : ∀ w ∈ u_ws RX10 TX10 9, w ∈ wsX10_worth := by decide +kernel
  have iX9 : ∀ w ∈ u_ws RX9 TX9 2, w ∈ wsX10_worth := by decide +kernel
  have fl10 := hts (.fieldLink RX10 10 "FairSeats" "worths" "LFairSeats$Worths;") (by decide +kernel)
  have fl97 := hts (.fieldLink RX10 97 "FairSeats$Worths" "each" "[I") (by decide +kernel)
  have cw93 := cwV (R := rm_X10_worth) (rm := rm_X9_fits) 2 hts gX10_worth_X9_fits rfl rfl rfl (by decide +kernel) ⟨Nat.le_of_ble_eq_true rfl, Nat.le_of_ble_eq_true rfl⟩
  have cw100 := cwV (R := rm_X10_worth) (rm := rm_X9_put) 2 hts gX10_worth_X9_put rfl rfl rfl (by decide +kernel) ⟨Nat.le_of_ble_eq_true rfl, Nat.le_of_ble_eq_true rfl⟩
  refine lv_iload_n hx hb dX10_worth_0 rfl (lv_at hl 1 rfl) ?_
  refine lv_if_lt (tgt := 21) hx hb dX10_worth_1 (by decide) (fun c1 => ?_) (fun c1 => ?_)
  · have hf := ob_pos c1 hf
    refine lv_bipush (v := (-2 : Int32)) hx hb dX10_worth_21 (by decide) ?_
    obtain rfl := Option.some.inj hf
    exact hret _ _ _ _ dX10_worth_23 hP hD hS
  · have hf := ob_neg c1 hf
    refine lv_iload_n hx hb dX10_worth_4 rfl (lv_at hl 1 rfl) ?_
    refine lv_iconst (v := (4 : Int32)) hx hb dX10_worth_5 (by decide) ?_
    refine lv_icmp_ge (tgt := 21) hx hb dX10_worth_6 (by decide) (fun c2 => ?_) (fun c2 => ?_)
    · have hf := ob_pos c2 hf
      refine lv_bipush (v := (-2 : Int32)) hx hb dX10_worth_21 (by decide) ?_
      obtain rfl := Option.some.inj hf
      exact hret _ _ _ _ dX10_worth_23 hP hD hS
    · have hf := ob_neg c2 hf
      refine lv_aload_n hx hb dX10_worth_9 rfl (lv_at hl 0 rfl) ?_
      refine va_get (D := D) (ci := 9) (v := .ref a_worths) (C := RX10) (T := TX10) (N := 9) hx hb hts iX10 hown hK hP 0 rfl rfl 0 (by decide) fl10 (fun _ h9 => h9) rfl dX10_worth_10 ?_
      refine lv_iload_n hx hb dX10_worth_13 rfl (lv_at hl 1 rfl) ?_
      refine lv_iload_n hx hb dX10_worth_14 rfl (lv_at hl 2 rfl) ?_
      obtain ⟨q3, hq3, hf⟩ := ob_bind hf
      refine k_Vz (wo := (wd_X10_worth cyI cyJ cyZ a_this a_worths a_heaps a_trial a_text a_lines a_lawful a_groups a_ways a_worths_each a_worths_together v_seatCount v_worths_each v_worths_together)) (As := [.int x1, .int x2]) (rest := []) C (c_X9_fits l D cyI cyJ cyZ a_worths a_worths_each a_worths_together v_worths_each x1 x2 q3 hq3) cw93 hP hD hS [1, 2] [0, 3] [0, 2, 3, 1] rfl rfl rfl (by decide) 0 (ci := 8) rfl rfl rfl rfl rfl hl.1 (Nat.le_of_ble_eq_true rfl) dX10_worth_15 ⟨Nat.zero_le _, Nat.zero_le _⟩ (fun H locs zq3 hP hD hS => ?_)
      refine lv_if_ne (tgt := 24) hx hb dX10_worth_18 (by decide) (fun c4 => ?_) (fun c4 => ?_)
      · have hf := ob_neg c4 hf
        refine lv_aload_n hx hb dX10_worth_24 rfl (lv_at hl 0 rfl) ?_
        refine va_get (D := D) (ci := 9) (v := .ref a_worths) (C := RX10) (T := TX10) (N := 9) hx hb hts iX10 hown hK hP 0 rfl rfl 0 (by decide) fl10 (fun _ h9 => h9) rfl dX10_worth_25 ?_
        refine va_get (D := D) (ci := 8) (v := .ref a_worths_each) (C := RX9) (T := TX9) (N := 2) hx hb hts iX9 hown hK hP 1 rfl rfl 0 (by decide) fl97 (fun _ h9 => h9) rfl dX10_worth_28 ?_
        refine lv_iload_n hx hb dX10_worth_31 rfl (lv_at hl 1 rfl) ?_
        obtain ⟨h5, hf⟩ := og_in hf
        refine va_iald hx hb hK hP 2 0 rfl rfl h5 dX10_worth_32 ?_
        refine lv_istore_n (lv' := [(3, .int (v_worths_each x1.toNatClampNeg)), (0, .ref a_this), (1, .int x1), (2, .int x2)]) hx hb dX10_worth_33 rfl hl (by decide) rfl (fun ls hl => ?_)
        refine lv_aload_n hx hb dX10_worth_34 rfl (lv_at hl 1 rfl) ?_
        refine va_get (D := D) (ci := 9) (v := .ref a_worths) (C := RX10) (T := TX10) (N := 9) hx hb hts iX10 hown hK hP 0 rfl rfl 0 (by decide) fl10 (fun _ h9 => h9) rfl dX10_worth_35 ?_
        refine lv_iload_n hx hb dX10_worth_38 rfl (lv_at hl 2 rfl) ?_
        refine lv_iload_n hx hb dX10_worth_39 rfl (lv_at hl 3 rfl) ?_
        obtain ⟨q6, hq6, hf⟩ := ob_bind hf
        refine k_Vv (wo := (wd_X10_worth cyI cyJ cyZ a_this a_worths a_heaps a_trial a_text a_lines a_lawful a_groups a_ways a_worths_each a_worths_together v_seatCount q6.1 q6.2)) (As := [.int x1, .int x2]) (rest := []) C (c_X9_put l D cyI cyJ cyZ a_worths a_worths_each a_worths_together v_worths_each v_worths_together x1 x2 q6 hq6) cw100 hP hD hS [1, 2, 3] [0] [0, 1, 2, 3] rfl rfl rfl (by decide) 0 (ci := 8) rfl rfl rfl rfl rfl hl.1 (Nat.le_of_ble_eq_true rfl) dX10_worth_40 ⟨Nat.zero_le _, Nat.zero_le _⟩ (fun H locs hP hD hS => ?_)
        refine lv_iload_n hx hb dX10_worth_43 rfl (lv_at hl 0 rfl) ?_
        obtain rfl := Option.some.inj hf
        exact hret _ _ _ _ dX10_worth_44 hP hD hS
      · have hf := ob_pos c4 hf
        refine lv_bipush (v := (-2 : Int32)) hx hb dX10_worth_21 (by decide) ?_
        obtain rfl := Option.some.inj hf
        exact hret _ _ _ _ dX10_worth_23 hP hD hS
abbrev rm_X10_say : Room := { frames := 1, cells := 0, slots := 0, locals := 21 }
abbrev wd_X10_say (cyI cyJ cyZ : ClassId) (a_text a_text_signs a_this a_worths a_heaps a_trial a_lines a_lawful a_groups a_ways : Nat) (v_text_length : Int32) (v_seatCount : Int32) (v_text_signs : Nat → Int32) : va_W := [(a_text, .inr (6, [.ref a_text_signs, .int v_text_length])), (a_this, .inr (9, [.ref a_worths, .ref a_heaps, .ref a_trial, .ref a_text, .ref a_lines, .ref a_lawful, .ref a_groups, .ref a_ways, .int v_seatCount])), (a_text_signs, .inl (cyI, 40, .inl v_text_signs))]
def f_X10_say (x1 : Int32) (v_text_length : Int32) (v_text_signs : Nat → Int32) : Option (Int32 × Int32 × (Nat → Int32)) := (if x1 < (33 : Int32) then some ((-2 : Int32), v_text_length, v_text_signs) else (if x1 ≤ (126 : Int32) then (if v_text_length < (40 : Int32) then (f_X7_append x1 v_text_length v_text_signs).bind (fun q4 => some (q4.1, q4.1, q4.2)) else some ((-4 : Int32), v_text_length, v_text_signs)) else some ((-2 : Int32), v_text_length, v_text_signs)))
set_option maxHeartbeats 4000000 in
set_option maxRecDepth 100000 in
theorem c_X10_say (l : Launch) (D : va_G) (cyI cyJ cyZ : ClassId) (a_text a_text_signs a_this a_worths a_heaps a_trial a_lines a_lawful a_groups a_ways : Nat) (v_text_length : Int32) (v_seatCount : Int32) (v_text_signs : Nat → Int32) (x1 : Int32) (q : Int32 × Int32 × (Nat → Int32)) (hf : f_X10_say x1 v_text_length v_text_signs = some q) : kMi l yX10_say wsX10_say rm_X10_say D (kTy cyI cyJ cyZ) [.ref a_this, .int x1] (wd_X10_say cyI cyJ cyZ a_text a_text_signs a_this a_worths a_heaps a_trial a_lines a_lawful a_groups a_ways v_text_length v_seatCount v_text_signs) (wd_X10_say cyI cyJ cyZ a_text a_text_signs a_this a_worths a_heaps a_trial a_lines a_lawful a_groups a_ways q.2.1 v_seatCount q.2.2) q.1 := by
  refine kMi_of (cc := cX10_say) (nL := 2) (own := RX10) (by decide) rfl rfl (Nat.le_of_ble_eq_true rfl) ?_
  intro p e s m below meth c A Q ls C hret hP hD hS hl
  have hl : lv_has ls 2 [(0, .ref a_this), (1, .int x1)] := hl
  unfold f_X10_say at hf
  obtain ⟨hx, hb, hml, hown, hts, hK, hA⟩ := id C
  have iX10 : ∀ w ∈ u_ws RX10 TX10 9, w ∈ wsX10_say := by decide +kernel
  have iX7 : ∀ w ∈ u_ws RX7 TX7 2, w ∈ wsX10_say := by decide +kernel
  have fl31 := hts (.fieldLink RX10 31 "FairSeats" "text" "LFairSeats$Text;") (by decide +kernel)
  have fl103 := hts (.fieldLink RX10 103 "FairSeats$Text" "length" "I") (by decide +kernel)
  have cw106 := cwV (R := rm_X10_say) (rm := rm_X7_append) 1 hts gX10_say_X7_append rfl rfl rfl (by decide +kernel) ⟨Nat.le_of_ble_eq_true rfl, Nat.le_of_ble_eq_true rfl⟩
  refine lv_iload_n hx hb dX10_say_0 rfl (lv_at hl 1 rfl) ?_
  refine lv_bipush (v := (33 : Int32)) hx hb dX10_say_1 (by decide) ?_
  refine lv_icmp_lt (tgt := 12) hx hb dX10_say_3 (by decide) (fun c1 => ?_) (fun c1 => ?_)
  · have hf := ob_pos c1 hf
    refine lv_bipush (v := (-2 : Int32)) hx hb dX10_say_12 (by decide) ?_
    obtain rfl := Option.some.inj hf
    exact hret _ _ _ _ dX10_say_14 hP hD hS
  · have hf := ob_neg c1 hf
    refine lv_iload_n hx hb dX10_say_6 rfl (lv_at hl 1 rfl) ?_
    refine lv_bipush (v := (126 : Int32)) hx hb dX10_say_7 (by decide) ?_
    refine lv_icmp_le (tgt := 15) hx hb dX10_say_9 (by decide) (fun c2 => ?_) (fun c2 => ?_)
    · have hf := ob_pos c2 hf
      refine lv_aload_n hx hb dX10_say_15 rfl (lv_at hl 0 rfl) ?_
      refine va_get (D := D) (ci := 9) (v := .ref a_text) (C := RX10) (T := TX10) (N := 9) hx hb hts iX10 hown hK hP 1 rfl rfl 3 (by decide) fl31 (fun _ h9 => h9) rfl dX10_say_16 ?_
      refine va_get (D := D) (ci := 6) (v := .int v_text_length) (C := RX7) (T := TX7) (N := 2) hx hb hts iX7 hown hK hP 0 rfl rfl 1 (by decide) fl103 (fun _ h9 => h9) rfl dX10_say_19 ?_
      refine lv_bipush (v := (40 : Int32)) hx hb dX10_say_22 (by decide) ?_
      refine lv_icmp_lt (tgt := 30) hx hb dX10_say_24 (by decide) (fun c3 => ?_) (fun c3 => ?_)
      · have hf := ob_pos c3 hf
        refine lv_aload_n hx hb dX10_say_30 rfl (lv_at hl 0 rfl) ?_
        refine va_get (D := D) (ci := 9) (v := .ref a_text) (C := RX10) (T := TX10) (N := 9) hx hb hts iX10 hown hK hP 1 rfl rfl 3 (by decide) fl31 (fun _ h9 => h9) rfl dX10_say_31 ?_
        refine lv_iload_n hx hb dX10_say_34 rfl (lv_at hl 1 rfl) ?_
        obtain ⟨q4, hq4, hf⟩ := ob_bind hf
        refine k_Vv (wo := (wd_X10_say cyI cyJ cyZ a_text a_text_signs a_this a_worths a_heaps a_trial a_lines a_lawful a_groups a_ways q4.1 v_seatCount q4.2)) (As := [.int x1]) (rest := []) C (c_X7_append l D cyI cyJ cyZ a_text a_text_signs v_text_length v_text_signs x1 q4 hq4) cw106 hP hD hS [0, 2] [1] [1, 0, 2] rfl rfl rfl (by decide) 0 (ci := 6) rfl rfl rfl rfl rfl hl.1 (Nat.le_of_ble_eq_true rfl) dX10_say_35 ⟨Nat.zero_le _, Nat.zero_le _⟩ (fun H locs hP hD hS => ?_)
        refine lv_aload_n hx hb dX10_say_38 rfl (lv_at hl 0 rfl) ?_
        refine va_get (D := D) (ci := 9) (v := .ref a_text) (C := RX10) (T := TX10) (N := 9) hx hb hts iX10 hown hK hP 1 rfl rfl 3 (by decide) fl31 (fun _ h9 => h9) rfl dX10_say_39 ?_
        refine va_get (D := D) (ci := 6) (v := .int q4.1) (C := RX7) (T := TX7) (N := 2) hx hb hts iX7 hown hK hP 0 rfl rfl 1 (by decide) fl103 (fun _ h9 => h9) rfl dX10_say_42 ?_
        obtain rfl := Option.some.inj hf
        exact hret _ _ _ _ dX10_say_45 hP hD hS
      · have hf := ob_neg c3 hf
        refine lv_bipush (v := (-4 : Int32)) hx hb dX10_say_27 (by decide) ?_
        obtain rfl := Option.some.inj hf
        exact hret _ _ _ _ dX10_say_29 hP hD hS
    · have hf := ob_neg c2 hf
      refine lv_bipush (v := (-2 : Int32)) hx hb dX10_say_12 (by decide) ?_
      obtain rfl := Option.some.inj hf
      exact hret _ _ _ _ dX10_say_14 hP hD hS
abbrev rm_X10_wipe : Room := { frames := 0, cells := 0, slots := 0, locals := 0 }
abbrev wd_X10_wipe (cyI cyJ cyZ : ClassId) (a_text a_text_signs a_this a_worths a_heaps a_trial a_lines a_lawful a_groups a_ways : Nat) (v_text_length : Int32) (v_seatCount : Int32) : va_W := [(a_text, .inr (6, [.ref a_text_signs, .int v_text_length])), (a_this, .inr (9, [.ref a_worths, .ref a_heaps, .ref a_trial, .ref a_text, .ref a_lines, .ref a_lawful, .ref a_groups, .ref a_ways, .int v_seatCount]))]
def f_X10_wipe (v_text_length : Int32) : Option (Int32 × Int32) := some (v_text_length, (0 : Int32))
set_option maxHeartbeats 4000000 in
set_option maxRecDepth 100000 in
theorem c_X10_wipe (l : Launch) (D : va_G) (cyI cyJ cyZ : ClassId) (a_text a_text_signs a_this a_worths a_heaps a_trial a_lines a_lawful a_groups a_ways : Nat) (v_text_length : Int32) (v_seatCount : Int32) (q : Int32 × Int32) (hf : f_X10_wipe v_text_length = some q) : kMi l yX10_wipe wsX10_wipe rm_X10_wipe D (kTy cyI cyJ cyZ) [.ref a_this] (wd_X10_wipe cyI cyJ cyZ a_text a_text_signs a_this a_worths a_heaps a_trial a_lines a_lawful a_groups a_ways v_text_length v_seatCount) (wd_X10_wipe cyI cyJ cyZ a_text a_text_signs a_this a_worths a_heaps a_trial a_lines a_lawful a_groups a_ways q.2 v_seatCount) q.1 := by
  refine kMi_of (cc := cX10_wipe) (nL := 2) (own := RX10) (by decide) rfl rfl (Nat.le_of_ble_eq_true rfl) ?_
  intro p e s m below meth c A Q ls C hret hP hD hS hl
  have hl : lv_has ls 2 [(0, .ref a_this)] := hl
  unfold f_X10_wipe at hf
  obtain ⟨hx, hb, hml, hown, hts, hK, hA⟩ := id C
  have iX10 : ∀ w ∈ u_ws RX10 TX10 9, w ∈ wsX10_wipe := by decide +kernel
  have iX7 : ∀ w ∈ u_ws RX7 TX7 2, w ∈ wsX10_wipe := by decide +kernel
  have fl31 := hts (.fieldLink RX10 31 "FairSeats" "text" "LFairSeats$Text;") (by decide +kernel)
  have fl103 := hts (.fieldLink RX10 103 "FairSeats$Text" "length" "I") (by decide +kernel)
  refine lv_aload_n hx hb dX10_wipe_0 rfl (lv_at hl 0 rfl) ?_
  refine va_get (D := D) (ci := 9) (v := .ref a_text) (C := RX10) (T := TX10) (N := 9) hx hb hts iX10 hown hK hP 1 rfl rfl 3 (by decide) fl31 (fun _ h9 => h9) rfl dX10_wipe_1 ?_
  refine va_get (D := D) (ci := 6) (v := .int v_text_length) (C := RX7) (T := TX7) (N := 2) hx hb hts iX7 hown hK hP 0 rfl rfl 1 (by decide) fl103 (fun _ h9 => h9) rfl dX10_wipe_4 ?_
  refine lv_istore_n (lv' := [(1, .int v_text_length), (0, .ref a_this)]) hx hb dX10_wipe_7 rfl hl (by decide) rfl (fun ls hl => ?_)
  refine lv_aload_n hx hb dX10_wipe_8 rfl (lv_at hl 1 rfl) ?_
  refine va_get (D := D) (ci := 9) (v := .ref a_text) (C := RX10) (T := TX10) (N := 9) hx hb hts iX10 hown hK hP 1 rfl rfl 3 (by decide) fl31 (fun _ h9 => h9) rfl dX10_wipe_9 ?_
  refine lv_iconst (v := (0 : Int32)) hx hb dX10_wipe_12 (by decide) ?_
  refine va_put (D := D) (ci := 6) (v := .int (0 : Int32)) (ty := .int) (C := RX7) (T := TX7) (N := 2) hx hb hts iX7 tyX7 tyX7_ok nmX7 hown hK hP hD hS 0 rfl rfl 1 (by decide) fl103 (fun _ h9 => h9) rfl (by decide +kernel) rfl rfl (Nat.le_of_ble_eq_true rfl) dX10_wipe_13 (fun H locs hP hD hS => ?_)
  have hP : va_P D vwCl (wd_X10_wipe cyI cyJ cyZ a_text a_text_signs a_this a_worths a_heaps a_trial a_lines a_lawful a_groups a_ways (0 : Int32) v_seatCount) H := hP
  have hD : va_D A (wd_X10_wipe cyI cyJ cyZ a_text a_text_signs a_this a_worths a_heaps a_trial a_lines a_lawful a_groups a_ways (0 : Int32) v_seatCount) := hD
  refine lv_iload_n hx hb dX10_wipe_16 rfl (lv_at hl 0 rfl) ?_
  obtain rfl := Option.some.inj hf
  exact hret _ _ _ _ dX10_wipe_17 hP hD hS
abbrev rm_X10_fault : Room := { frames := 2, cells := 0, slots := 0, locals := 44 }
abbrev wd_X10_fault (cyI cyJ cyZ : ClassId) (a_text a_text_signs a_this a_worths a_heaps a_trial a_lines a_lawful a_groups a_ways : Nat) (v_text_length : Int32) (v_seatCount : Int32) (v_text_signs : Nat → Int32) : va_W := [(a_text, .inr (6, [.ref a_text_signs, .int v_text_length])), (a_this, .inr (9, [.ref a_worths, .ref a_heaps, .ref a_trial, .ref a_text, .ref a_lines, .ref a_lawful, .ref a_groups, .ref a_ways, .int v_seatCount])), (a_text_signs, .inl (cyI, 40, .inl v_text_signs))]
def f_X10_fault (v_text_length : Int32) (v_text_signs : Nat → Int32) : Option (Int32) := (f_X7_firstFault v_text_length v_text_signs).bind (fun q1 => some q1)
set_option maxHeartbeats 4000000 in
set_option maxRecDepth 100000 in
theorem c_X10_fault (l : Launch) (D : va_G) (cyI cyJ cyZ : ClassId) (a_text a_text_signs a_this a_worths a_heaps a_trial a_lines a_lawful a_groups a_ways : Nat) (v_text_length : Int32) (v_seatCount : Int32) (v_text_signs : Nat → Int32) (q : Int32) (hf : f_X10_fault v_text_length v_text_signs = some q) : kMi l yX10_fault wsX10_fault rm_X10_fault D (kTy cyI cyJ cyZ) [.ref a_this] (wd_X10_fault cyI cyJ cyZ a_text a_text_signs a_this a_worths a_heaps a_trial a_lines a_lawful a_groups a_ways v_text_length v_seatCount v_text_signs) (wd_X10_fault cyI cyJ cyZ a_text a_text_signs a_this a_worths a_heaps a_trial a_lines a_lawful a_groups a_ways v_text_length v_seatCount v_text_signs) q := by
  refine kMi_of (cc := cX10_fault) (nL := 1) (own := RX10) (by decide) rfl rfl (Nat.le_of_ble_eq_true rfl) ?_
  intro p e s m below meth c A Q ls C hret hP hD hS hl
  have hl : lv_has ls 1 [(0, .ref a_this)] := hl
  unfold f_X10_fault at hf
  obtain ⟨hx, hb, hml, hown, hts, hK, hA⟩ := id C
  have iX10 : ∀ w ∈ u_ws RX10 TX10 9, w ∈ wsX10_fault := by decide +kernel
  have fl31 := hts (.fieldLink RX10 31 "FairSeats" "text" "LFairSeats$Text;") (by decide +kernel)
  have cw109 := cwV (R := rm_X10_fault) (rm := rm_X7_firstFault) 0 hts gX10_fault_X7_firstFault rfl rfl rfl (by decide +kernel) ⟨Nat.le_of_ble_eq_true rfl, Nat.le_of_ble_eq_true rfl⟩
  refine lv_aload_n hx hb dX10_fault_0 rfl (lv_at hl 0 rfl) ?_
  refine va_get (D := D) (ci := 9) (v := .ref a_text) (C := RX10) (T := TX10) (N := 9) hx hb hts iX10 hown hK hP 1 rfl rfl 3 (by decide) fl31 (fun _ h9 => h9) rfl dX10_fault_1 ?_
  obtain ⟨q1, hq1, hf⟩ := ob_bind hf
  refine k_Vi (wo := (wd_X10_fault cyI cyJ cyZ a_text a_text_signs a_this a_worths a_heaps a_trial a_lines a_lawful a_groups a_ways v_text_length v_seatCount v_text_signs)) (As := []) (rest := []) C (c_X7_firstFault l D cyI cyJ cyZ a_text a_text_signs v_text_length v_text_signs  q1 hq1) cw109 hP hD hS [0, 2] [1] [1, 0, 2] rfl rfl rfl (by decide) 0 (ci := 6) rfl rfl rfl rfl rfl hl.1 (Nat.le_of_ble_eq_true rfl) dX10_fault_4 ⟨Nat.zero_le _, Nat.zero_le _⟩ (fun H locs hP hD hS => ?_)
  obtain rfl := Option.some.inj hf
  exact hret _ _ _ _ dX10_fault_7 hP hD hS
abbrev rm_X10_hall : Room := { frames := 2, cells := 0, slots := 0, locals := 48 }
abbrev wd_X10_hall (cyI cyJ cyZ : ClassId) (a_lines a_lines_sets a_lines_digits a_lines_fewer a_text a_text_signs a_this a_worths a_heaps a_trial a_lawful a_groups a_ways : Nat) (v_lines_count : Int32) (v_text_length : Int32) (v_seatCount : Int32) (v_lines_digits : Nat → Int32) (v_lines_fewer : Nat → Int32) (v_lines_sets : Nat → Int32) (v_text_signs : Nat → Int32) : va_W := [(a_lines, .inr (3, [.ref a_lines_sets, .ref a_lines_digits, .ref a_lines_fewer, .int v_lines_count])), (a_text, .inr (6, [.ref a_text_signs, .int v_text_length])), (a_this, .inr (9, [.ref a_worths, .ref a_heaps, .ref a_trial, .ref a_text, .ref a_lines, .ref a_lawful, .ref a_groups, .ref a_ways, .int v_seatCount])), (a_lines_digits, .inl (cyI, 10, .inl v_lines_digits)), (a_lines_fewer, .inl (cyZ, 10, .inl v_lines_fewer)), (a_lines_sets, .inl (cyI, 10, .inl v_lines_sets)), (a_text_signs, .inl (cyI, 40, .inl v_text_signs))]
def f_X10_hall (v_lines_count : Int32) (v_text_length : Int32) (v_lines_digits : Nat → Int32) (v_lines_fewer : Nat → Int32) (v_lines_sets : Nat → Int32) (v_text_signs : Nat → Int32) : Option (Int32 × Int32 × Int32 × (Nat → Int32) × (Nat → Int32) × (Nat → Int32)) := (f_X7_firstFault v_text_length v_text_signs).bind (fun q1 => (if q1 = (-6 : Int32) then (f_X4_read v_text_length v_lines_count v_text_signs v_lines_digits v_lines_fewer v_lines_sets).bind (fun q3 => some ((1 : Int32), q3.1, (0 : Int32), q3.2.1, q3.2.2.1, q3.2.2.2)) else some ((-5 : Int32), v_lines_count, v_text_length, v_lines_digits, v_lines_fewer, v_lines_sets)))
set_option maxHeartbeats 4000000 in
set_option maxRecDepth 100000 in
theorem c_X10_hall (l : Launch) (D : va_G) (cyI cyJ cyZ : ClassId) (a_lines a_lines_sets a_lines_digits a_lines_fewer a_text a_text_signs a_this a_worths a_heaps a_trial a_lawful a_groups a_ways : Nat) (v_lines_count : Int32) (v_text_length : Int32) (v_seatCount : Int32) (v_lines_digits : Nat → Int32) (v_lines_fewer : Nat → Int32) (v_lines_sets : Nat → Int32) (v_text_signs : Nat → Int32) (q : Int32 × Int32 × Int32 × (Nat → Int32) × (Nat → Int32) × (Nat → Int32)) (hf : f_X10_hall v_lines_count v_text_length v_lines_digits v_lines_fewer v_lines_sets v_text_signs = some q) : kMi l yX10_hall wsX10_hall rm_X10_hall D (kTy cyI cyJ cyZ) [.ref a_this] (wd_X10_hall cyI cyJ cyZ a_lines a_lines_sets a_lines_digits a_lines_fewer a_text a_text_signs a_this a_worths a_heaps a_trial a_lawful a_groups a_ways v_lines_count v_text_length v_seatCount v_lines_digits v_lines_fewer v_lines_sets v_text_signs) (wd_X10_hall cyI cyJ cyZ a_lines a_lines_sets a_lines_digits a_lines_fewer a_text a_text_signs a_this a_worths a_heaps a_trial a_lawful a_groups a_ways q.2.1 q.2.2.1 v_seatCount q.2.2.2.1 q.2.2.2.2.1 q.2.2.2.2.2 v_text_signs) q.1 := by
  refine kMi_of (cc := cX10_hall) (nL := 1) (own := RX10) (by decide) rfl rfl (Nat.le_of_ble_eq_true rfl) ?_
  intro p e s m below meth c A Q ls C hret hP hD hS hl
  have hl : lv_has ls 1 [(0, .ref a_this)] := hl
  unfold f_X10_hall at hf
  obtain ⟨hx, hb, hml, hown, hts, hK, hA⟩ := id C
  have iX10 : ∀ w ∈ u_ws RX10 TX10 9, w ∈ wsX10_hall := by decide +kernel
  have iX7 : ∀ w ∈ u_ws RX7 TX7 2, w ∈ wsX10_hall := by decide +kernel
  have fl31 := hts (.fieldLink RX10 31 "FairSeats" "text" "LFairSeats$Text;") (by decide +kernel)
  have fl38 := hts (.fieldLink RX10 38 "FairSeats" "lines" "LFairSeats$Lines;") (by decide +kernel)
  have fl103 := hts (.fieldLink RX10 103 "FairSeats$Text" "length" "I") (by decide +kernel)
  have cw109 := cwV (R := rm_X10_hall) (rm := rm_X7_firstFault) 0 hts gX10_hall_X7_firstFault rfl rfl rfl (by decide +kernel) ⟨Nat.le_of_ble_eq_true rfl, Nat.le_of_ble_eq_true rfl⟩
  have cw113 := cwV (R := rm_X10_hall) (rm := rm_X4_read) 1 hts gX10_hall_X4_read rfl rfl rfl (by decide +kernel) ⟨Nat.le_of_ble_eq_true rfl, Nat.le_of_ble_eq_true rfl⟩
  refine lv_aload_n hx hb dX10_hall_0 rfl (lv_at hl 0 rfl) ?_
  refine va_get (D := D) (ci := 9) (v := .ref a_text) (C := RX10) (T := TX10) (N := 9) hx hb hts iX10 hown hK hP 2 rfl rfl 3 (by decide) fl31 (fun _ h9 => h9) rfl dX10_hall_1 ?_
  obtain ⟨q1, hq1, hf⟩ := ob_bind hf
  refine k_Vi (wo := (wd_X10_hall cyI cyJ cyZ a_lines a_lines_sets a_lines_digits a_lines_fewer a_text a_text_signs a_this a_worths a_heaps a_trial a_lawful a_groups a_ways v_lines_count v_text_length v_seatCount v_lines_digits v_lines_fewer v_lines_sets v_text_signs)) (As := []) (rest := []) C (c_X7_firstFault l D cyI cyJ cyZ a_text a_text_signs v_text_length v_text_signs  q1 hq1) cw109 hP hD hS [1, 6] [0, 2, 3, 4, 5] [0, 5, 1, 2, 3, 4, 6] rfl rfl rfl (by decide) 0 (ci := 6) rfl rfl rfl rfl rfl hl.1 (Nat.le_of_ble_eq_true rfl) dX10_hall_4 ⟨Nat.zero_le _, Nat.zero_le _⟩ (fun H locs hP hD hS => ?_)
  refine lv_bipush (v := (-6 : Int32)) hx hb dX10_hall_7 (by decide) ?_
  refine lv_icmp_eq (tgt := 15) hx hb dX10_hall_9 (by decide) (fun c2 => ?_) (fun c2 => ?_)
  · have hf := ob_pos c2 hf
    refine lv_aload_n hx hb dX10_hall_15 rfl (lv_at hl 0 rfl) ?_
    refine va_get (D := D) (ci := 9) (v := .ref a_lines) (C := RX10) (T := TX10) (N := 9) hx hb hts iX10 hown hK hP 2 rfl rfl 4 (by decide) fl38 (fun _ h9 => h9) rfl dX10_hall_16 ?_
    refine lv_aload_n hx hb dX10_hall_19 rfl (lv_at hl 0 rfl) ?_
    refine va_get (D := D) (ci := 9) (v := .ref a_text) (C := RX10) (T := TX10) (N := 9) hx hb hts iX10 hown hK hP 2 rfl rfl 3 (by decide) fl31 (fun _ h9 => h9) rfl dX10_hall_20 ?_
    obtain ⟨q3, hq3, hf⟩ := ob_bind hf
    refine k_Vv (wo := (wd_X10_hall cyI cyJ cyZ a_lines a_lines_sets a_lines_digits a_lines_fewer a_text a_text_signs a_this a_worths a_heaps a_trial a_lawful a_groups a_ways q3.1 v_text_length v_seatCount q3.2.1 q3.2.2.1 q3.2.2.2 v_text_signs)) (As := [.ref a_text]) (rest := []) C (c_X4_read l D cyI cyJ cyZ a_text a_text_signs a_lines a_lines_sets a_lines_digits a_lines_fewer v_text_length v_lines_count v_text_signs v_lines_digits v_lines_fewer v_lines_sets  q3 hq3) cw113 hP hD hS [1, 0, 6, 3, 4, 5] [2] [2, 1, 0, 4, 5, 6, 3] rfl rfl rfl (by decide) 1 (ci := 3) rfl rfl rfl rfl rfl hl.1 (Nat.le_of_ble_eq_true rfl) dX10_hall_23 ⟨Nat.zero_le _, Nat.zero_le _⟩ (fun H locs hP hD hS => ?_)
    refine lv_aload_n hx hb dX10_hall_26 rfl (lv_at hl 0 rfl) ?_
    refine va_get (D := D) (ci := 9) (v := .ref a_text) (C := RX10) (T := TX10) (N := 9) hx hb hts iX10 hown hK hP 2 rfl rfl 3 (by decide) fl31 (fun _ h9 => h9) rfl dX10_hall_27 ?_
    refine lv_iconst (v := (0 : Int32)) hx hb dX10_hall_30 (by decide) ?_
    refine va_put (D := D) (ci := 6) (v := .int (0 : Int32)) (ty := .int) (C := RX7) (T := TX7) (N := 2) hx hb hts iX7 tyX7 tyX7_ok nmX7 hown hK hP hD hS 1 rfl rfl 1 (by decide) fl103 (fun _ h9 => h9) rfl (by decide +kernel) rfl rfl (Nat.le_of_ble_eq_true rfl) dX10_hall_31 (fun H locs hP hD hS => ?_)
    have hP : va_P D vwCl (wd_X10_hall cyI cyJ cyZ a_lines a_lines_sets a_lines_digits a_lines_fewer a_text a_text_signs a_this a_worths a_heaps a_trial a_lawful a_groups a_ways q3.1 (0 : Int32) v_seatCount q3.2.1 q3.2.2.1 q3.2.2.2 v_text_signs) H := hP
    have hD : va_D A (wd_X10_hall cyI cyJ cyZ a_lines a_lines_sets a_lines_digits a_lines_fewer a_text a_text_signs a_this a_worths a_heaps a_trial a_lawful a_groups a_ways q3.1 (0 : Int32) v_seatCount q3.2.1 q3.2.2.1 q3.2.2.2 v_text_signs) := hD
    refine lv_iconst (v := (1 : Int32)) hx hb dX10_hall_34 (by decide) ?_
    obtain rfl := Option.some.inj hf
    exact hret _ _ _ _ dX10_hall_35 hP hD hS
  · have hf := ob_neg c2 hf
    refine lv_bipush (v := (-5 : Int32)) hx hb dX10_hall_12 (by decide) ?_
    obtain rfl := Option.some.inj hf
    exact hret _ _ _ _ dX10_hall_14 hP hD hS
abbrev rm_X10_open : Room := { frames := 0, cells := 0, slots := 0, locals := 0 }
abbrev wd_X10_open (cyI cyJ cyZ : ClassId) (a_lines a_lines_sets a_lines_digits a_lines_fewer a_this a_worths a_heaps a_trial a_text a_lawful a_groups a_ways : Nat) (v_lines_count : Int32) (v_seatCount : Int32) : va_W := [(a_lines, .inr (3, [.ref a_lines_sets, .ref a_lines_digits, .ref a_lines_fewer, .int v_lines_count])), (a_this, .inr (9, [.ref a_worths, .ref a_heaps, .ref a_trial, .ref a_text, .ref a_lines, .ref a_lawful, .ref a_groups, .ref a_ways, .int v_seatCount]))]
def f_X10_open (v_lines_count : Int32) : Option (Int32 × Int32) := (if v_lines_count = 0 then some ((0 : Int32), v_lines_count) else some ((1 : Int32), (0 : Int32)))
set_option maxHeartbeats 4000000 in
set_option maxRecDepth 100000 in
theorem c_X10_open (l : Launch) (D : va_G) (cyI cyJ cyZ : ClassId) (a_lines a_lines_sets a_lines_digits a_lines_fewer a_this a_worths a_heaps a_trial a_text a_lawful a_groups a_ways : Nat) (v_lines_count : Int32) (v_seatCount : Int32) (q : Int32 × Int32) (hf : f_X10_open v_lines_count = some q) : kMi l yX10_open wsX10_open rm_X10_open D (kTy cyI cyJ cyZ) [.ref a_this] (wd_X10_open cyI cyJ cyZ a_lines a_lines_sets a_lines_digits a_lines_fewer a_this a_worths a_heaps a_trial a_text a_lawful a_groups a_ways v_lines_count v_seatCount) (wd_X10_open cyI cyJ cyZ a_lines a_lines_sets a_lines_digits a_lines_fewer a_this a_worths a_heaps a_trial a_text a_lawful a_groups a_ways q.2 v_seatCount) q.1 := by
  refine kMi_of (cc := cX10_open) (nL := 1) (own := RX10) (by decide) rfl rfl (Nat.le_of_ble_eq_true rfl) ?_
  intro p e s m below meth c A Q ls C hret hP hD hS hl
  have hl : lv_has ls 1 [(0, .ref a_this)] := hl
  unfold f_X10_open at hf
  obtain ⟨hx, hb, hml, hown, hts, hK, hA⟩ := id C
  have iX10 : ∀ w ∈ u_ws RX10 TX10 9, w ∈ wsX10_open := by decide +kernel
  have iX4 : ∀ w ∈ u_ws RX4 TX4 4, w ∈ wsX10_open := by decide +kernel
  have fl38 := hts (.fieldLink RX10 38 "FairSeats" "lines" "LFairSeats$Lines;") (by decide +kernel)
  have fl117 := hts (.fieldLink RX10 117 "FairSeats$Lines" "count" "I") (by decide +kernel)
  refine lv_aload_n hx hb dX10_open_0 rfl (lv_at hl 0 rfl) ?_
  refine va_get (D := D) (ci := 9) (v := .ref a_lines) (C := RX10) (T := TX10) (N := 9) hx hb hts iX10 hown hK hP 1 rfl rfl 4 (by decide) fl38 (fun _ h9 => h9) rfl dX10_open_1 ?_
  refine va_get (D := D) (ci := 3) (v := .int v_lines_count) (C := RX4) (T := TX4) (N := 4) hx hb hts iX4 hown hK hP 0 rfl rfl 3 (by decide) fl117 (fun _ h9 => h9) rfl dX10_open_4 ?_
  refine lv_if_ne (tgt := 12) hx hb dX10_open_7 (by decide) (fun c1 => ?_) (fun c1 => ?_)
  · have hf := ob_neg c1 hf
    refine lv_aload_n hx hb dX10_open_12 rfl (lv_at hl 0 rfl) ?_
    refine va_get (D := D) (ci := 9) (v := .ref a_lines) (C := RX10) (T := TX10) (N := 9) hx hb hts iX10 hown hK hP 1 rfl rfl 4 (by decide) fl38 (fun _ h9 => h9) rfl dX10_open_13 ?_
    refine lv_iconst (v := (0 : Int32)) hx hb dX10_open_16 (by decide) ?_
    refine va_put (D := D) (ci := 3) (v := .int (0 : Int32)) (ty := .int) (C := RX4) (T := TX4) (N := 4) hx hb hts iX4 tyX4 tyX4_ok nmX4 hown hK hP hD hS 0 rfl rfl 3 (by decide) fl117 (fun _ h9 => h9) rfl (by decide +kernel) rfl rfl (Nat.le_of_ble_eq_true rfl) dX10_open_17 (fun H locs hP hD hS => ?_)
    have hP : va_P D vwCl (wd_X10_open cyI cyJ cyZ a_lines a_lines_sets a_lines_digits a_lines_fewer a_this a_worths a_heaps a_trial a_text a_lawful a_groups a_ways (0 : Int32) v_seatCount) H := hP
    have hD : va_D A (wd_X10_open cyI cyJ cyZ a_lines a_lines_sets a_lines_digits a_lines_fewer a_this a_worths a_heaps a_trial a_text a_lawful a_groups a_ways (0 : Int32) v_seatCount) := hD
    refine lv_iconst (v := (1 : Int32)) hx hb dX10_open_20 (by decide) ?_
    obtain rfl := Option.some.inj hf
    exact hret _ _ _ _ dX10_open_21 hP hD hS
  · have hf := ob_pos c1 hf
    refine lv_iconst (v := (0 : Int32)) hx hb dX10_open_10 (by decide) ?_
    obtain rfl := Option.some.inj hf
    exact hret _ _ _ _ dX10_open_11 hP hD hS
abbrev rm_X10_isCommittee : Room := { frames := 1, cells := 0, slots := 0, locals := 20 }
abbrev wd_X10_isCommittee (cyI cyJ cyZ : ClassId) (a_this a_worths a_heaps a_trial a_text a_lines a_lawful a_groups a_ways : Nat) (v_seatCount : Int32) : va_W := [(a_this, .inr (9, [.ref a_worths, .ref a_heaps, .ref a_trial, .ref a_text, .ref a_lines, .ref a_lawful, .ref a_groups, .ref a_ways, .int v_seatCount]))]
def f_X10_isCommittee (x1 : Int32) (v_seatCount : Int32) : Option (Int32) := (f_X10_isSet x1).bind (fun q1 => (if q1 = 0 then some (0 : Int32) else (f_J6_bitCount_0f7a4 x1).bind (fun q3 => (if q3 = v_seatCount then some (1 : Int32) else some (0 : Int32)))))
set_option maxHeartbeats 4000000 in
set_option maxRecDepth 100000 in
theorem c_X10_isCommittee (l : Launch) (D : va_G) (cyI cyJ cyZ : ClassId) (a_this a_worths a_heaps a_trial a_text a_lines a_lawful a_groups a_ways : Nat) (v_seatCount : Int32) (x1 : Int32) (q : Int32) (hf : f_X10_isCommittee x1 v_seatCount = some q) : kMz l yX10_isCommittee wsX10_isCommittee rm_X10_isCommittee D (kTy cyI cyJ cyZ) [.ref a_this, .int x1] (wd_X10_isCommittee cyI cyJ cyZ a_this a_worths a_heaps a_trial a_text a_lines a_lawful a_groups a_ways v_seatCount) (wd_X10_isCommittee cyI cyJ cyZ a_this a_worths a_heaps a_trial a_text a_lines a_lawful a_groups a_ways v_seatCount) q := by
  refine kMz_of (cc := cX10_isCommittee) (nL := 2) (own := RX10) (by decide) rfl rfl (Nat.le_of_ble_eq_true rfl) ?_
  intro p e s m below meth c A Q ls C hret hP hD hS hl
  have hl : lv_has ls 2 [(0, .ref a_this), (1, .int x1)] := hl
  unfold f_X10_isCommittee at hf
  obtain ⟨hx, hb, hml, hown, hts, hK, hA⟩ := id C
  have iX10 : ∀ w ∈ u_ws RX10 TX10 9, w ∈ wsX10_isCommittee := by decide +kernel
  have fl65 := hts (.fieldLink RX10 65 "FairSeats" "seatCount" "I") (by decide +kernel)
  have cw69 := va_cwS (R := rm_X10_isCommittee) (rm := rm_X10_isSet) 1 hts gX10_isCommittee_X10_isSet rfl rfl rfl (by decide +kernel) ⟨Nat.le_of_ble_eq_true rfl, Nat.le_of_ble_eq_true rfl⟩
  have cw232 := va_cwS (R := rm_X10_isCommittee) (rm := rm_J6_bitCount_0f7a4) 1 hts gX10_isCommittee_J6_bitCount_0f7a4 rfl rfl rfl (by decide +kernel) ⟨Nat.le_of_ble_eq_true rfl, Nat.le_of_ble_eq_true rfl⟩
  refine lv_iload_n hx hb dX10_isCommittee_0 rfl (lv_at hl 1 rfl) ?_
  obtain ⟨q1, hq1, hf⟩ := ob_bind hf
  refine k_Sz (wo := (wd_X10_isCommittee cyI cyJ cyZ a_this a_worths a_heaps a_trial a_text a_lines a_lawful a_groups a_ways v_seatCount)) (As := [.int x1]) (rest := []) C (c_X10_isSet l D cyI cyJ cyZ   x1 q1 hq1) cw69 hP hD hS [] [0] [0] rfl rfl rfl (by decide) rfl rfl hl.1 (Nat.le_of_ble_eq_true rfl) dX10_isCommittee_1 ⟨Nat.zero_le _, Nat.zero_le _⟩ (fun H locs zq1 hP hD hS => ?_)
  refine lv_if_eq (tgt := 22) hx hb dX10_isCommittee_4 (by decide) (fun c2 => ?_) (fun c2 => ?_)
  · have hf := ob_pos c2 hf
    refine lv_iconst (v := (0 : Int32)) hx hb dX10_isCommittee_22 (by decide) ?_
    obtain rfl := Option.some.inj hf
    exact hret _ _ _ _ narrow_b0 dX10_isCommittee_23 hP hD hS
  · have hf := ob_neg c2 hf
    refine lv_iload_n hx hb dX10_isCommittee_7 rfl (lv_at hl 1 rfl) ?_
    obtain ⟨q3, hq3, hf⟩ := ob_bind hf
    refine k_Si (wo := (wd_X10_isCommittee cyI cyJ cyZ a_this a_worths a_heaps a_trial a_text a_lines a_lawful a_groups a_ways v_seatCount)) (As := [.int x1]) (rest := []) C (c_J6_bitCount_0f7a4 l D cyI cyJ cyZ   x1 q3 hq3) cw232 hP hD hS [] [0] [0] rfl rfl rfl (by decide) rfl rfl hl.1 (Nat.le_of_ble_eq_true rfl) dX10_isCommittee_8 ⟨Nat.zero_le _, Nat.zero_le _⟩ (fun H locs hP hD hS => ?_)
    refine lv_aload_n hx hb dX10_isCommittee_11 rfl (lv_at hl 0 rfl) ?_
    refine va_get (D := D) (ci := 9) (v := .int v_seatCount) (C := RX10) (T := TX10) (N := 9) hx hb hts iX10 hown hK hP 0 rfl rfl 8 (by decide) fl65 (fun _ h9 => h9) rfl dX10_isCommittee_12 ?_
    refine lv_icmp_ne (tgt := 22) hx hb dX10_isCommittee_15 (by decide) (fun c4 => ?_) (fun c4 => ?_)
    · have hf := ob_neg c4 hf
      refine lv_iconst (v := (0 : Int32)) hx hb dX10_isCommittee_22 (by decide) ?_
      obtain rfl := Option.some.inj hf
      exact hret _ _ _ _ narrow_b0 dX10_isCommittee_23 hP hD hS
    · have hf := ob_pos c4 hf
      refine lv_iconst (v := (1 : Int32)) hx hb dX10_isCommittee_18 (by decide) ?_
      refine lv_goto (tgt := 23) hx hb dX10_isCommittee_19 (by decide) ?_
      obtain rfl := Option.some.inj hf
      exact hret _ _ _ _ narrow_b1 dX10_isCommittee_23 hP hD hS
abbrev rm_X10_of : Room := { frames := 3, cells := 0, slots := 0, locals := 64 }
abbrev wd_X10_of (cyI cyJ cyZ : ClassId) (a_heaps a_heaps_sets a_heaps_papers a_worths a_lines a_lines_sets a_lines_digits a_lines_fewer a_this a_trial a_text a_lawful a_groups a_ways a_worths_each a_worths_together : Nat) (v_heaps_count : Int32) (v_lines_count : Int32) (v_seatCount : Int32) (v_heaps_papers : Nat → Int32) (v_heaps_sets : Nat → Int32) (v_lines_digits : Nat → Int32) (v_lines_fewer : Nat → Int32) (v_lines_sets : Nat → Int32) (v_worths_together : Nat → Int32) : va_W := [(a_heaps, .inr (2, [.ref a_heaps_sets, .ref a_heaps_papers, .ref a_worths, .int v_heaps_count])), (a_lines, .inr (3, [.ref a_lines_sets, .ref a_lines_digits, .ref a_lines_fewer, .int v_lines_count])), (a_this, .inr (9, [.ref a_worths, .ref a_heaps, .ref a_trial, .ref a_text, .ref a_lines, .ref a_lawful, .ref a_groups, .ref a_ways, .int v_seatCount])), (a_worths, .inr (8, [.ref a_worths_each, .ref a_worths_together])), (a_heaps_papers, .inl (cyI, 7, .inl v_heaps_papers)), (a_heaps_sets, .inl (cyI, 7, .inl v_heaps_sets)), (a_lines_digits, .inl (cyI, 10, .inl v_lines_digits)), (a_lines_fewer, .inl (cyZ, 10, .inl v_lines_fewer)), (a_lines_sets, .inl (cyI, 10, .inl v_lines_sets)), (a_worths_together, .inl (cyI, 9, .inl v_worths_together))]
def f_X10_of (x1 : Int32) (x2 : Int32) (v_heaps_count : Int32) (v_lines_count : Int32) (v_seatCount : Int32) (v_heaps_papers : Nat → Int32) (v_heaps_sets : Nat → Int32) (v_lines_digits : Nat → Int32) (v_lines_fewer : Nat → Int32) (v_lines_sets : Nat → Int32) (v_worths_together : Nat → Int32) : Option (Int32) := (f_X10_isCommittee x1 v_seatCount).bind (fun q1 => (if q1 = 0 then some (-2 : Int32) else (if x2 = 0 then (f_X4_allow x1 v_lines_count v_lines_digits v_lines_fewer v_lines_sets).bind (fun q7 => (if q7 = 0 then some (0 : Int32) else some (1 : Int32))) else (if x2 = 1 then (f_X3_worthOf x1 v_heaps_count v_heaps_papers v_heaps_sets v_worths_together).bind (fun q9 => some q9) else (if x2 = 2 then (f_X3_wronged x1 v_heaps_count v_heaps_papers v_heaps_sets).bind (fun q10 => some q10) else (if x2 = 3 then (f_X4_firstBroken x1 v_lines_count v_lines_digits v_lines_fewer v_lines_sets).bind (fun q11 => some q11) else some (-2 : Int32)))))))
set_option maxHeartbeats 4000000 in
set_option maxRecDepth 100000 in
theorem c_X10_of (l : Launch) (D : va_G) (cyI cyJ cyZ : ClassId) (a_heaps a_heaps_sets a_heaps_papers a_worths a_lines a_lines_sets a_lines_digits a_lines_fewer a_this a_trial a_text a_lawful a_groups a_ways a_worths_each a_worths_together : Nat) (v_heaps_count : Int32) (v_lines_count : Int32) (v_seatCount : Int32) (v_heaps_papers : Nat → Int32) (v_heaps_sets : Nat → Int32) (v_lines_digits : Nat → Int32) (v_lines_fewer : Nat → Int32) (v_lines_sets : Nat → Int32) (v_worths_together : Nat → Int32) (x1 : Int32) (x2 : Int32) (q : Int32) (hf : f_X10_of x1 x2 v_heaps_count v_lines_count v_seatCount v_heaps_papers v_heaps_sets v_lines_digits v_lines_fewer v_lines_sets v_worths_together = some q) : kMi l yX10_of wsX10_of rm_X10_of D (kTy cyI cyJ cyZ) [.ref a_this, .int x1, .int x2] (wd_X10_of cyI cyJ cyZ a_heaps a_heaps_sets a_heaps_papers a_worths a_lines a_lines_sets a_lines_digits a_lines_fewer a_this a_trial a_text a_lawful a_groups a_ways a_worths_each a_worths_together v_heaps_count v_lines_count v_seatCount v_heaps_papers v_heaps_sets v_lines_digits v_lines_fewer v_lines_sets v_worths_together) (wd_X10_of cyI cyJ cyZ a_heaps a_heaps_sets a_heaps_papers a_worths a_lines a_lines_sets a_lines_digits a_lines_fewer a_this a_trial a_text a_lawful a_groups a_ways a_worths_each a_worths_together v_heaps_count v_lines_count v_seatCount v_heaps_papers v_heaps_sets v_lines_digits v_lines_fewer v_lines_sets v_worths_together) q := by
  refine kMi_of (cc := cX10_of) (nL := 3) (own := RX10) (by decide) rfl rfl (Nat.le_of_ble_eq_true rfl) ?_
  intro p e s m below meth c A Q ls C hret hP hD hS hl
  have hl : lv_has ls 3 [(0, .ref a_this), (1, .int x1), (2, .int x2)] := hl
  unfold f_X10_of at hf
  obtain ⟨hx, hb, hml, hown, hts, hK, hA⟩ := id C
  have iX10 : ∀ w ∈ u_ws RX10 TX10 9, w ∈ wsX10_of := by decide +kernel
  have fl21 := hts (.fieldLink RX10 21 "FairSeats" "heaps" "LFairSeats$Heaps;") (by decide +kernel)
  have fl38 := hts (.fieldLink RX10 38 "FairSeats" "lines" "LFairSeats$Lines;") (by decide +kernel)
  have cw118 := cwV (R := rm_X10_of) (rm := rm_X10_isCommittee) 1 hts gX10_of_X10_isCommittee rfl rfl rfl (by decide +kernel) ⟨Nat.le_of_ble_eq_true rfl, Nat.le_of_ble_eq_true rfl⟩
  have cw121 := cwV (R := rm_X10_of) (rm := rm_X4_allow) 1 hts gX10_of_X4_allow rfl rfl rfl (by decide +kernel) ⟨Nat.le_of_ble_eq_true rfl, Nat.le_of_ble_eq_true rfl⟩
  have cw124 := cwV (R := rm_X10_of) (rm := rm_X3_worthOf) 1 hts gX10_of_X3_worthOf rfl rfl rfl (by decide +kernel) ⟨Nat.le_of_ble_eq_true rfl, Nat.le_of_ble_eq_true rfl⟩
  have cw128 := cwV (R := rm_X10_of) (rm := rm_X3_wronged) 1 hts gX10_of_X3_wronged rfl rfl rfl (by decide +kernel) ⟨Nat.le_of_ble_eq_true rfl, Nat.le_of_ble_eq_true rfl⟩
  have cw131 := cwV (R := rm_X10_of) (rm := rm_X4_firstBroken) 1 hts gX10_of_X4_firstBroken rfl rfl rfl (by decide +kernel) ⟨Nat.le_of_ble_eq_true rfl, Nat.le_of_ble_eq_true rfl⟩
  refine lv_aload_n hx hb dX10_of_0 rfl (lv_at hl 0 rfl) ?_
  refine lv_iload_n hx hb dX10_of_1 rfl (lv_at hl 1 rfl) ?_
  obtain ⟨q1, hq1, hf⟩ := ob_bind hf
  refine k_Vz (wo := (wd_X10_of cyI cyJ cyZ a_heaps a_heaps_sets a_heaps_papers a_worths a_lines a_lines_sets a_lines_digits a_lines_fewer a_this a_trial a_text a_lawful a_groups a_ways a_worths_each a_worths_together v_heaps_count v_lines_count v_seatCount v_heaps_papers v_heaps_sets v_lines_digits v_lines_fewer v_lines_sets v_worths_together)) (As := [.int x1]) (rest := []) C (c_X10_isCommittee l D cyI cyJ cyZ a_this a_worths a_heaps a_trial a_text a_lines a_lawful a_groups a_ways v_seatCount x1 q1 hq1) cw118 hP hD hS [2] [0, 1, 3, 4, 5, 6, 7, 8, 9] [0, 1, 9, 2, 3, 4, 5, 6, 7, 8] rfl rfl rfl (by decide) 0 (ci := 9) rfl rfl rfl rfl rfl hl.1 (Nat.le_of_ble_eq_true rfl) dX10_of_2 ⟨Nat.zero_le _, Nat.zero_le _⟩ (fun H locs zq1 hP hD hS => ?_)
  refine lv_if_ne (tgt := 11) hx hb dX10_of_5 (by decide) (fun c2 => ?_) (fun c2 => ?_)
  · have hf := ob_neg c2 hf
    refine lv_iload_n hx hb dX10_of_11 rfl (lv_at hl 2 rfl) ?_
    by_cases c3 : x2 = 0
    · have hf := ob_pos c3 hf
      refine lv_tableIn (off := 32) (tgt := 44) hx hb dX10_of_12 (by rw [c3]; decide) (by rw [c3]; decide) (by rw [c3]; rfl) (by decide) ?_
      refine lv_aload_n hx hb dX10_of_44 rfl (lv_at hl 0 rfl) ?_
      refine va_get (D := D) (ci := 9) (v := .ref a_lines) (C := RX10) (T := TX10) (N := 9) hx hb hts iX10 hown hK hP 2 rfl rfl 4 (by decide) fl38 (fun _ h9 => h9) rfl dX10_of_45 ?_
      refine lv_iload_n hx hb dX10_of_48 rfl (lv_at hl 1 rfl) ?_
      obtain ⟨q7, hq7, hf⟩ := ob_bind hf
      refine k_Vz (wo := (wd_X10_of cyI cyJ cyZ a_heaps a_heaps_sets a_heaps_papers a_worths a_lines a_lines_sets a_lines_digits a_lines_fewer a_this a_trial a_text a_lawful a_groups a_ways a_worths_each a_worths_together v_heaps_count v_lines_count v_seatCount v_heaps_papers v_heaps_sets v_lines_digits v_lines_fewer v_lines_sets v_worths_together)) (As := [.int x1]) (rest := []) C (c_X4_allow l D cyI cyJ cyZ a_lines a_lines_sets a_lines_digits a_lines_fewer v_lines_count v_lines_digits v_lines_fewer v_lines_sets x1 q7 hq7) cw121 hP hD hS [1, 6, 7, 8] [0, 2, 3, 4, 5, 9] [0, 6, 1, 2, 3, 4, 7, 8, 9, 5] rfl rfl rfl (by decide) 0 (ci := 3) rfl rfl rfl rfl rfl hl.1 (Nat.le_of_ble_eq_true rfl) dX10_of_49 ⟨Nat.zero_le _, Nat.zero_le _⟩ (fun H locs zq7 hP hD hS => ?_)
      refine lv_if_eq (tgt := 59) hx hb dX10_of_52 (by decide) (fun c8 => ?_) (fun c8 => ?_)
      · have hf := ob_pos c8 hf
        refine lv_iconst (v := (0 : Int32)) hx hb dX10_of_59 (by decide) ?_
        obtain rfl := Option.some.inj hf
        exact hret _ _ _ _ dX10_of_60 hP hD hS
      · have hf := ob_neg c8 hf
        refine lv_iconst (v := (1 : Int32)) hx hb dX10_of_55 (by decide) ?_
        refine lv_goto (tgt := 60) hx hb dX10_of_56 (by decide) ?_
        obtain rfl := Option.some.inj hf
        exact hret _ _ _ _ dX10_of_60 hP hD hS
    · have hf := ob_neg c3 hf
      by_cases c4 : x2 = 1
      · have hf := ob_pos c4 hf
        refine lv_tableIn (off := 49) (tgt := 61) hx hb dX10_of_12 (by rw [c4]; decide) (by rw [c4]; decide) (by rw [c4]; rfl) (by decide) ?_
        refine lv_aload_n hx hb dX10_of_61 rfl (lv_at hl 0 rfl) ?_
        refine va_get (D := D) (ci := 9) (v := .ref a_heaps) (C := RX10) (T := TX10) (N := 9) hx hb hts iX10 hown hK hP 2 rfl rfl 1 (by decide) fl21 (fun _ h9 => h9) rfl dX10_of_62 ?_
        refine lv_iload_n hx hb dX10_of_65 rfl (lv_at hl 1 rfl) ?_
        obtain ⟨q9, hq9, hf⟩ := ob_bind hf
        refine k_Vi (wo := (wd_X10_of cyI cyJ cyZ a_heaps a_heaps_sets a_heaps_papers a_worths a_lines a_lines_sets a_lines_digits a_lines_fewer a_this a_trial a_text a_lawful a_groups a_ways a_worths_each a_worths_together v_heaps_count v_lines_count v_seatCount v_heaps_papers v_heaps_sets v_lines_digits v_lines_fewer v_lines_sets v_worths_together)) (As := [.int x1]) (rest := []) C (c_X3_worthOf l D cyI cyJ cyZ a_heaps a_heaps_sets a_heaps_papers a_worths a_worths_each a_worths_together v_heaps_count v_heaps_papers v_heaps_sets v_worths_together x1 q9 hq9) cw124 hP hD hS [0, 3, 4, 5, 9] [1, 2, 6, 7, 8] [5, 0, 1, 6, 7, 8, 2, 3, 4, 9] rfl rfl rfl (by decide) 0 (ci := 2) rfl rfl rfl rfl rfl hl.1 (Nat.le_of_ble_eq_true rfl) dX10_of_66 ⟨Nat.zero_le _, Nat.zero_le _⟩ (fun H locs hP hD hS => ?_)
        obtain rfl := Option.some.inj hf
        exact hret _ _ _ _ dX10_of_69 hP hD hS
      · have hf := ob_neg c4 hf
        by_cases c5 : x2 = 2
        · have hf := ob_pos c5 hf
          refine lv_tableIn (off := 58) (tgt := 70) hx hb dX10_of_12 (by rw [c5]; decide) (by rw [c5]; decide) (by rw [c5]; rfl) (by decide) ?_
          refine lv_aload_n hx hb dX10_of_70 rfl (lv_at hl 0 rfl) ?_
          refine va_get (D := D) (ci := 9) (v := .ref a_heaps) (C := RX10) (T := TX10) (N := 9) hx hb hts iX10 hown hK hP 2 rfl rfl 1 (by decide) fl21 (fun _ h9 => h9) rfl dX10_of_71 ?_
          refine lv_iload_n hx hb dX10_of_74 rfl (lv_at hl 1 rfl) ?_
          obtain ⟨q10, hq10, hf⟩ := ob_bind hf
          refine k_Vi (wo := (wd_X10_of cyI cyJ cyZ a_heaps a_heaps_sets a_heaps_papers a_worths a_lines a_lines_sets a_lines_digits a_lines_fewer a_this a_trial a_text a_lawful a_groups a_ways a_worths_each a_worths_together v_heaps_count v_lines_count v_seatCount v_heaps_papers v_heaps_sets v_lines_digits v_lines_fewer v_lines_sets v_worths_together)) (As := [.int x1]) (rest := []) C (c_X3_wronged l D cyI cyJ cyZ a_heaps a_heaps_sets a_heaps_papers a_worths v_heaps_count v_heaps_papers v_heaps_sets x1 q10 hq10) cw128 hP hD hS [0, 4, 5] [1, 2, 3, 6, 7, 8, 9] [7, 0, 1, 2, 8, 9, 3, 4, 5, 6] rfl rfl rfl (by decide) 0 (ci := 2) rfl rfl rfl rfl rfl hl.1 (Nat.le_of_ble_eq_true rfl) dX10_of_75 ⟨Nat.zero_le _, Nat.zero_le _⟩ (fun H locs hP hD hS => ?_)
          obtain rfl := Option.some.inj hf
          exact hret _ _ _ _ dX10_of_78 hP hD hS
        · have hf := ob_neg c5 hf
          by_cases c6 : x2 = 3
          · have hf := ob_pos c6 hf
            refine lv_tableIn (off := 67) (tgt := 79) hx hb dX10_of_12 (by rw [c6]; decide) (by rw [c6]; decide) (by rw [c6]; rfl) (by decide) ?_
            refine lv_aload_n hx hb dX10_of_79 rfl (lv_at hl 0 rfl) ?_
            refine va_get (D := D) (ci := 9) (v := .ref a_lines) (C := RX10) (T := TX10) (N := 9) hx hb hts iX10 hown hK hP 2 rfl rfl 4 (by decide) fl38 (fun _ h9 => h9) rfl dX10_of_80 ?_
            refine lv_iload_n hx hb dX10_of_83 rfl (lv_at hl 1 rfl) ?_
            obtain ⟨q11, hq11, hf⟩ := ob_bind hf
            refine k_Vi (wo := (wd_X10_of cyI cyJ cyZ a_heaps a_heaps_sets a_heaps_papers a_worths a_lines a_lines_sets a_lines_digits a_lines_fewer a_this a_trial a_text a_lawful a_groups a_ways a_worths_each a_worths_together v_heaps_count v_lines_count v_seatCount v_heaps_papers v_heaps_sets v_lines_digits v_lines_fewer v_lines_sets v_worths_together)) (As := [.int x1]) (rest := []) C (c_X4_firstBroken l D cyI cyJ cyZ a_lines a_lines_sets a_lines_digits a_lines_fewer v_lines_count v_lines_digits v_lines_fewer v_lines_sets x1 q11 hq11) cw131 hP hD hS [1, 6, 7, 8] [0, 2, 3, 4, 5, 9] [0, 6, 1, 2, 3, 4, 7, 8, 9, 5] rfl rfl rfl (by decide) 0 (ci := 3) rfl rfl rfl rfl rfl hl.1 (Nat.le_of_ble_eq_true rfl) dX10_of_84 ⟨Nat.zero_le _, Nat.zero_le _⟩ (fun H locs hP hD hS => ?_)
            obtain rfl := Option.some.inj hf
            exact hret _ _ _ _ dX10_of_87 hP hD hS
          · have hf := ob_neg c6 hf
            refine lv_tableOut (tgt := 88) hx hb dX10_of_12 (by have nc3 := lv_neT (a := 0) c3 (by decide); have nc4 := lv_neT (a := 1) c4 (by decide); have nc5 := lv_neT (a := 2) c5 (by decide); have nc6 := lv_neT (a := 3) c6 (by decide); omega) (by decide) ?_
            refine lv_bipush (v := (-2 : Int32)) hx hb dX10_of_88 (by decide) ?_
            obtain rfl := Option.some.inj hf
            exact hret _ _ _ _ dX10_of_90 hP hD hS
  · have hf := ob_pos c2 hf
    refine lv_bipush (v := (-2 : Int32)) hx hb dX10_of_8 (by decide) ?_
    obtain rfl := Option.some.inj hf
    exact hret _ _ _ _ dX10_of_10 hP hD hS
abbrev rm_X10_isWay : Room := { frames := 0, cells := 0, slots := 0, locals := 0 }
abbrev wd_X10_isWay (cyI cyJ cyZ : ClassId) : va_W := []
def f_X10_isWay (x0 : Int32) : Option (Int32) := (if x0 < 0 then some (0 : Int32) else (if (5 : Int32) < x0 then some (0 : Int32) else some (1 : Int32)))
set_option maxHeartbeats 4000000 in
set_option maxRecDepth 100000 in
theorem c_X10_isWay (l : Launch) (D : va_G) (cyI cyJ cyZ : ClassId) (x0 : Int32) (q : Int32) (hf : f_X10_isWay x0 = some q) : kMz l yX10_isWay wsX10_isWay rm_X10_isWay D (kTy cyI cyJ cyZ) [.int x0] (wd_X10_isWay cyI cyJ cyZ) (wd_X10_isWay cyI cyJ cyZ) q := by
  refine kMz_of (cc := cX10_isWay) (nL := 1) (own := RX10) (by decide) rfl rfl (Nat.le_of_ble_eq_true rfl) ?_
  intro p e s m below meth c A Q ls C hret hP hD hS hl
  have hl : lv_has ls 1 [(0, .int x0)] := hl
  unfold f_X10_isWay at hf
  obtain ⟨hx, hb, hml, hown, hts, hK, hA⟩ := id C
  refine lv_iload_n hx hb dX10_isWay_0 rfl (lv_at hl 0 rfl) ?_
  refine lv_if_lt (tgt := 13) hx hb dX10_isWay_1 (by decide) (fun c1 => ?_) (fun c1 => ?_)
  · have hf := ob_pos c1 hf
    refine lv_iconst (v := (0 : Int32)) hx hb dX10_isWay_13 (by decide) ?_
    obtain rfl := Option.some.inj hf
    exact hret _ _ _ _ narrow_b0 dX10_isWay_14 hP hD hS
  · have hf := ob_neg c1 hf
    refine lv_iload_n hx hb dX10_isWay_4 rfl (lv_at hl 0 rfl) ?_
    refine lv_iconst (v := (5 : Int32)) hx hb dX10_isWay_5 (by decide) ?_
    refine lv_icmp_gt (tgt := 13) hx hb dX10_isWay_6 (by decide) (fun c2 => ?_) (fun c2 => ?_)
    · have hf := ob_pos c2 hf
      refine lv_iconst (v := (0 : Int32)) hx hb dX10_isWay_13 (by decide) ?_
      obtain rfl := Option.some.inj hf
      exact hret _ _ _ _ narrow_b0 dX10_isWay_14 hP hD hS
    · have hf := ob_neg c2 hf
      refine lv_iconst (v := (1 : Int32)) hx hb dX10_isWay_9 (by decide) ?_
      refine lv_goto (tgt := 14) hx hb dX10_isWay_10 (by decide) ?_
      obtain rfl := Option.some.inj hf
      exact hret _ _ _ _ narrow_b1 dX10_isWay_14 hP hD hS
abbrev rm_X10_runWay : Room := { frames := 6, cells := 0, slots := 0, locals := 152 }
abbrev wd_X10_runWay (cyI cyJ cyZ : ClassId) (a_heaps a_heaps_sets a_heaps_papers a_worths a_lawful a_lawful_row a_lines a_lines_sets a_lines_digits a_lines_fewer a_this a_trial a_text a_groups a_ways a_ways_loads a_ways_purses a_ways_order a_ways_loads_upper a_ways_purses_upper a_worths_each a_worths_together : Nat) (v_heaps_count : Int32) (v_lawful_count : Int32) (v_lines_count : Int32) (v_seatCount : Int32) (v_ways_count : Int32) (v_ways_chosen : Int32) (v_ways_paidCount : Int32) (v_ways_loads_lower : Int64) (v_ways_purses_lower : Int64) (v_ways_purses_rest : Int64) (v_ways_purses_payers : Int32) (v_heaps_papers : Nat → Int32) (v_heaps_sets : Nat → Int32) (v_lawful_row : Nat → Int32) (v_lines_digits : Nat → Int32) (v_lines_fewer : Nat → Int32) (v_lines_sets : Nat → Int32) (v_ways_loads_upper : Nat → Int64) (v_ways_order : Nat → Int32) (v_ways_purses_upper : Nat → Int64) (v_worths_together : Nat → Int32) : va_W := [(a_heaps, .inr (2, [.ref a_heaps_sets, .ref a_heaps_papers, .ref a_worths, .int v_heaps_count])), (a_lawful, .inr (0, [.ref a_lawful_row, .int v_lawful_count])), (a_lines, .inr (3, [.ref a_lines_sets, .ref a_lines_digits, .ref a_lines_fewer, .int v_lines_count])), (a_this, .inr (9, [.ref a_worths, .ref a_heaps, .ref a_trial, .ref a_text, .ref a_lines, .ref a_lawful, .ref a_groups, .ref a_ways, .int v_seatCount])), (a_ways, .inr (7, [.ref a_ways_loads, .ref a_ways_purses, .ref a_lawful, .ref a_ways_order, .int v_ways_count, .int v_ways_chosen, .int v_ways_paidCount])), (a_ways_loads, .inr (4, [.ref a_ways_loads_upper, .long v_ways_loads_lower])), (a_ways_purses, .inr (5, [.ref a_ways_purses_upper, .long v_ways_purses_lower, .long v_ways_purses_rest, .int v_ways_purses_payers])), (a_worths, .inr (8, [.ref a_worths_each, .ref a_worths_together])), (a_heaps_papers, .inl (cyI, 7, .inl v_heaps_papers)), (a_heaps_sets, .inl (cyI, 7, .inl v_heaps_sets)), (a_lawful_row, .inl (cyI, 70, .inl v_lawful_row)), (a_lines_digits, .inl (cyI, 10, .inl v_lines_digits)), (a_lines_fewer, .inl (cyZ, 10, .inl v_lines_fewer)), (a_lines_sets, .inl (cyI, 10, .inl v_lines_sets)), (a_ways_loads_upper, .inl (cyJ, 7, .inr (.inl v_ways_loads_upper))), (a_ways_order, .inl (cyI, 4, .inl v_ways_order)), (a_ways_purses_upper, .inl (cyJ, 7, .inr (.inl v_ways_purses_upper))), (a_worths_together, .inl (cyI, 9, .inl v_worths_together))]
def f_X10_runWay (x1 : Int32) (x2 : Int32) (v_heaps_count : Int32) (v_lawful_count : Int32) (v_lines_count : Int32) (v_ways_count : Int32) (v_ways_chosen : Int32) (v_ways_paidCount : Int32) (v_ways_loads_lower : Int64) (v_ways_purses_lower : Int64) (v_ways_purses_rest : Int64) (v_ways_purses_payers : Int32) (v_heaps_papers : Nat → Int32) (v_heaps_sets : Nat → Int32) (v_lawful_row : Nat → Int32) (v_lines_digits : Nat → Int32) (v_lines_fewer : Nat → Int32) (v_lines_sets : Nat → Int32) (v_ways_loads_upper : Nat → Int64) (v_ways_order : Nat → Int32) (v_ways_purses_upper : Nat → Int64) (v_worths_together : Nat → Int32) : Option (Int32 × Int32 × Int32 × Int32 × Int64 × Int64 × Int64 × Int32 × (Nat → Int32) × (Nat → Int64) × (Nat → Int32) × (Nat → Int64)) := (if x1 = (4 : Int32) then (f_X0_gather x2 v_lines_count v_lawful_count v_lines_digits v_lines_fewer v_lines_sets v_lawful_row).bind (fun q3 => (f_X8_run x1 x2 v_heaps_count q3.1 v_ways_loads_lower v_ways_purses_lower v_ways_purses_rest v_ways_purses_payers v_ways_count v_ways_chosen v_ways_paidCount v_heaps_papers v_heaps_sets v_worths_together q3.2 v_ways_loads_upper v_ways_order v_ways_purses_upper).bind (fun q4 => some (q3.1, q4.2.2.2.2.1, q4.2.2.2.2.2.1, q4.2.2.2.2.2.2.1, q4.1, q4.2.1, q4.2.2.1, q4.2.2.2.1, q3.2, q4.2.2.2.2.2.2.2.1, q4.2.2.2.2.2.2.2.2.1, q4.2.2.2.2.2.2.2.2.2))) else (f_X8_run x1 x2 v_heaps_count v_lawful_count v_ways_loads_lower v_ways_purses_lower v_ways_purses_rest v_ways_purses_payers v_ways_count v_ways_chosen v_ways_paidCount v_heaps_papers v_heaps_sets v_worths_together v_lawful_row v_ways_loads_upper v_ways_order v_ways_purses_upper).bind (fun q2 => some (v_lawful_count, q2.2.2.2.2.1, q2.2.2.2.2.2.1, q2.2.2.2.2.2.2.1, q2.1, q2.2.1, q2.2.2.1, q2.2.2.2.1, v_lawful_row, q2.2.2.2.2.2.2.2.1, q2.2.2.2.2.2.2.2.2.1, q2.2.2.2.2.2.2.2.2.2)))
set_option maxHeartbeats 4000000 in
set_option maxRecDepth 100000 in
theorem c_X10_runWay (l : Launch) (D : va_G) (cyI cyJ cyZ : ClassId) (a_heaps a_heaps_sets a_heaps_papers a_worths a_lawful a_lawful_row a_lines a_lines_sets a_lines_digits a_lines_fewer a_this a_trial a_text a_groups a_ways a_ways_loads a_ways_purses a_ways_order a_ways_loads_upper a_ways_purses_upper a_worths_each a_worths_together : Nat) (v_heaps_count : Int32) (v_lawful_count : Int32) (v_lines_count : Int32) (v_seatCount : Int32) (v_ways_count : Int32) (v_ways_chosen : Int32) (v_ways_paidCount : Int32) (v_ways_loads_lower : Int64) (v_ways_purses_lower : Int64) (v_ways_purses_rest : Int64) (v_ways_purses_payers : Int32) (v_heaps_papers : Nat → Int32) (v_heaps_sets : Nat → Int32) (v_lawful_row : Nat → Int32) (v_lines_digits : Nat → Int32) (v_lines_fewer : Nat → Int32) (v_lines_sets : Nat → Int32) (v_ways_loads_upper : Nat → Int64) (v_ways_order : Nat → Int32) (v_ways_purses_upper : Nat → Int64) (v_worths_together : Nat → Int32) (x1 : Int32) (x2 : Int32) (q : Int32 × Int32 × Int32 × Int32 × Int64 × Int64 × Int64 × Int32 × (Nat → Int32) × (Nat → Int64) × (Nat → Int32) × (Nat → Int64)) (hf : f_X10_runWay x1 x2 v_heaps_count v_lawful_count v_lines_count v_ways_count v_ways_chosen v_ways_paidCount v_ways_loads_lower v_ways_purses_lower v_ways_purses_rest v_ways_purses_payers v_heaps_papers v_heaps_sets v_lawful_row v_lines_digits v_lines_fewer v_lines_sets v_ways_loads_upper v_ways_order v_ways_purses_upper v_worths_together = some q) : kMv l yX10_runWay wsX10_runWay rm_X10_runWay D (kTy cyI cyJ cyZ) [.ref a_this, .int x1, .int x2] (wd_X10_runWay cyI cyJ cyZ a_heaps a_heaps_sets a_heaps_papers a_worths a_lawful a_lawful_row a_lines a_lines_sets a_lines_digits a_lines_fewer a_this a_trial a_text a_groups a_ways a_ways_loads a_ways_purses a_ways_order a_ways_loads_upper a_ways_purses_upper a_worths_each a_worths_together v_heaps_count v_lawful_count v_lines_count v_seatCount v_ways_count v_ways_chosen v_ways_paidCount v_ways_loads_lower v_ways_purses_lower v_ways_purses_rest v_ways_purses_payers v_heaps_papers v_heaps_sets v_lawful_row v_lines_digits v_lines_fewer v_lines_sets v_ways_loads_upper v_ways_order v_ways_purses_upper v_worths_together) (wd_X10_runWay cyI cyJ cyZ a_heaps a_heaps_sets a_heaps_papers a_worths a_lawful a_lawful_row a_lines a_lines_sets a_lines_digits a_lines_fewer a_this a_trial a_text a_groups a_ways a_ways_loads a_ways_purses a_ways_order a_ways_loads_upper a_ways_purses_upper a_worths_each a_worths_together v_heaps_count q.1 v_lines_count v_seatCount q.2.1 q.2.2.1 q.2.2.2.1 q.2.2.2.2.1 q.2.2.2.2.2.1 q.2.2.2.2.2.2.1 q.2.2.2.2.2.2.2.1 v_heaps_papers v_heaps_sets q.2.2.2.2.2.2.2.2.1 v_lines_digits v_lines_fewer v_lines_sets q.2.2.2.2.2.2.2.2.2.1 q.2.2.2.2.2.2.2.2.2.2.1 q.2.2.2.2.2.2.2.2.2.2.2 v_worths_together) := by
  refine kMv_of (cc := cX10_runWay) (nL := 3) (own := RX10) (by decide) rfl rfl (Nat.le_of_ble_eq_true rfl) ?_
  intro p e s m below meth c A Q ls C hret hP hD hS hl
  have hl : lv_has ls 3 [(0, .ref a_this), (1, .int x1), (2, .int x2)] := hl
  unfold f_X10_runWay at hf
  obtain ⟨hx, hb, hml, hown, hts, hK, hA⟩ := id C
  have iX10 : ∀ w ∈ u_ws RX10 TX10 9, w ∈ wsX10_runWay := by decide +kernel
  have fl21 := hts (.fieldLink RX10 21 "FairSeats" "heaps" "LFairSeats$Heaps;") (by decide +kernel)
  have fl38 := hts (.fieldLink RX10 38 "FairSeats" "lines" "LFairSeats$Lines;") (by decide +kernel)
  have fl45 := hts (.fieldLink RX10 45 "FairSeats" "lawful" "LFairSeats$Committees;") (by decide +kernel)
  have fl61 := hts (.fieldLink RX10 61 "FairSeats" "ways" "LFairSeats$Ways;") (by decide +kernel)
  have cw205 := cwV (R := rm_X10_runWay) (rm := rm_X0_gather) 2 hts gX10_runWay_X0_gather rfl rfl rfl (by decide +kernel) ⟨Nat.le_of_ble_eq_true rfl, Nat.le_of_ble_eq_true rfl⟩
  have cw219 := cwV (R := rm_X10_runWay) (rm := rm_X8_run) 3 hts gX10_runWay_X8_run rfl rfl rfl (by decide +kernel) ⟨Nat.le_of_ble_eq_true rfl, Nat.le_of_ble_eq_true rfl⟩
  refine lv_iload_n hx hb dX10_runWay_0 rfl (lv_at hl 1 rfl) ?_
  refine lv_iconst (v := (4 : Int32)) hx hb dX10_runWay_1 (by decide) ?_
  refine lv_icmp_ne (tgt := 17) hx hb dX10_runWay_2 (by decide) (fun c1 => ?_) (fun c1 => ?_)
  · have hf := ob_neg c1 hf
    refine lv_aload_n hx hb dX10_runWay_17 rfl (lv_at hl 0 rfl) ?_
    refine va_get (D := D) (ci := 9) (v := .ref a_ways) (C := RX10) (T := TX10) (N := 9) hx hb hts iX10 hown hK hP 3 rfl rfl 7 (by decide) fl61 (fun _ h9 => h9) rfl dX10_runWay_18 ?_
    refine lv_iload_n hx hb dX10_runWay_21 rfl (lv_at hl 1 rfl) ?_
    refine lv_aload_n hx hb dX10_runWay_22 rfl (lv_at hl 0 rfl) ?_
    refine va_get (D := D) (ci := 9) (v := .ref a_heaps) (C := RX10) (T := TX10) (N := 9) hx hb hts iX10 hown hK hP 3 rfl rfl 1 (by decide) fl21 (fun _ h9 => h9) rfl dX10_runWay_23 ?_
    refine lv_iload_n hx hb dX10_runWay_26 rfl (lv_at hl 2 rfl) ?_
    obtain ⟨q2, hq2, hf⟩ := ob_bind hf
    refine k_Vv (wo := (wd_X10_runWay cyI cyJ cyZ a_heaps a_heaps_sets a_heaps_papers a_worths a_lawful a_lawful_row a_lines a_lines_sets a_lines_digits a_lines_fewer a_this a_trial a_text a_groups a_ways a_ways_loads a_ways_purses a_ways_order a_ways_loads_upper a_ways_purses_upper a_worths_each a_worths_together v_heaps_count v_lawful_count v_lines_count v_seatCount q2.2.2.2.2.1 q2.2.2.2.2.2.1 q2.2.2.2.2.2.2.1 q2.1 q2.2.1 q2.2.2.1 q2.2.2.2.1 v_heaps_papers v_heaps_sets v_lawful_row v_lines_digits v_lines_fewer v_lines_sets q2.2.2.2.2.2.2.2.1 q2.2.2.2.2.2.2.2.2.1 q2.2.2.2.2.2.2.2.2.2 v_worths_together)) (As := [.int x1, .ref a_heaps, .int x2]) (rest := []) C (c_X8_run l D cyI cyJ cyZ a_heaps a_heaps_sets a_heaps_papers a_worths a_worths_each a_worths_together a_lawful a_lawful_row a_ways_loads a_ways_loads_upper a_ways_purses a_ways_purses_upper a_ways a_ways_order v_heaps_count v_lawful_count v_ways_loads_lower v_ways_purses_lower v_ways_purses_rest v_ways_purses_payers v_ways_count v_ways_chosen v_ways_paidCount v_heaps_papers v_heaps_sets v_worths_together v_lawful_row v_ways_loads_upper v_ways_order v_ways_purses_upper x1 x2 q2 hq2) cw219 hP hD hS [0, 7, 1, 5, 6, 4, 8, 9, 17, 10, 14, 15, 16] [2, 3, 11, 12, 13] [5, 7, 0, 1, 10, 8, 9, 6, 11, 12, 14, 2, 3, 4, 15, 16, 17, 13] rfl rfl rfl (by decide) 5 (ci := 7) rfl rfl rfl rfl rfl hl.1 (Nat.le_of_ble_eq_true rfl) dX10_runWay_27 ⟨Nat.zero_le _, Nat.zero_le _⟩ (fun H locs hP hD hS => ?_)
    obtain rfl := Option.some.inj hf
    exact hret _ _ _ _ dX10_runWay_30 hP hD hS
  · have hf := ob_pos c1 hf
    refine lv_aload_n hx hb dX10_runWay_5 rfl (lv_at hl 0 rfl) ?_
    refine va_get (D := D) (ci := 9) (v := .ref a_lawful) (C := RX10) (T := TX10) (N := 9) hx hb hts iX10 hown hK hP 3 rfl rfl 5 (by decide) fl45 (fun _ h9 => h9) rfl dX10_runWay_6 ?_
    refine lv_aload_n hx hb dX10_runWay_9 rfl (lv_at hl 0 rfl) ?_
    refine va_get (D := D) (ci := 9) (v := .ref a_lines) (C := RX10) (T := TX10) (N := 9) hx hb hts iX10 hown hK hP 3 rfl rfl 4 (by decide) fl38 (fun _ h9 => h9) rfl dX10_runWay_10 ?_
    refine lv_iload_n hx hb dX10_runWay_13 rfl (lv_at hl 2 rfl) ?_
    obtain ⟨q3, hq3, hf⟩ := ob_bind hf
    refine k_Vv (wo := (wd_X10_runWay cyI cyJ cyZ a_heaps a_heaps_sets a_heaps_papers a_worths a_lawful a_lawful_row a_lines a_lines_sets a_lines_digits a_lines_fewer a_this a_trial a_text a_groups a_ways a_ways_loads a_ways_purses a_ways_order a_ways_loads_upper a_ways_purses_upper a_worths_each a_worths_together v_heaps_count q3.1 v_lines_count v_seatCount v_ways_count v_ways_chosen v_ways_paidCount v_ways_loads_lower v_ways_purses_lower v_ways_purses_rest v_ways_purses_payers v_heaps_papers v_heaps_sets q3.2 v_lines_digits v_lines_fewer v_lines_sets v_ways_loads_upper v_ways_order v_ways_purses_upper v_worths_together)) (As := [.ref a_lines, .int x2]) (rest := []) C (c_X0_gather l D cyI cyJ cyZ a_lines a_lines_sets a_lines_digits a_lines_fewer a_lawful a_lawful_row v_lines_count v_lawful_count v_lines_digits v_lines_fewer v_lines_sets v_lawful_row x2 q3 hq3) cw205 hP hD hS [2, 1, 11, 12, 13, 10] [0, 3, 4, 5, 6, 7, 8, 9, 14, 15, 16, 17] [0, 13, 12, 1, 2, 3, 4, 5, 6, 7, 17, 14, 15, 16, 8, 9, 10, 11] rfl rfl rfl (by decide) 1 (ci := 0) rfl rfl rfl rfl rfl hl.1 (Nat.le_of_ble_eq_true rfl) dX10_runWay_14 ⟨Nat.zero_le _, Nat.zero_le _⟩ (fun H locs hP hD hS => ?_)
    refine lv_aload_n hx hb dX10_runWay_17 rfl (lv_at hl 0 rfl) ?_
    refine va_get (D := D) (ci := 9) (v := .ref a_ways) (C := RX10) (T := TX10) (N := 9) hx hb hts iX10 hown hK hP 3 rfl rfl 7 (by decide) fl61 (fun _ h9 => h9) rfl dX10_runWay_18 ?_
    refine lv_iload_n hx hb dX10_runWay_21 rfl (lv_at hl 1 rfl) ?_
    refine lv_aload_n hx hb dX10_runWay_22 rfl (lv_at hl 0 rfl) ?_
    refine va_get (D := D) (ci := 9) (v := .ref a_heaps) (C := RX10) (T := TX10) (N := 9) hx hb hts iX10 hown hK hP 3 rfl rfl 1 (by decide) fl21 (fun _ h9 => h9) rfl dX10_runWay_23 ?_
    refine lv_iload_n hx hb dX10_runWay_26 rfl (lv_at hl 2 rfl) ?_
    obtain ⟨q4, hq4, hf⟩ := ob_bind hf
    refine k_Vv (wo := (wd_X10_runWay cyI cyJ cyZ a_heaps a_heaps_sets a_heaps_papers a_worths a_lawful a_lawful_row a_lines a_lines_sets a_lines_digits a_lines_fewer a_this a_trial a_text a_groups a_ways a_ways_loads a_ways_purses a_ways_order a_ways_loads_upper a_ways_purses_upper a_worths_each a_worths_together v_heaps_count q3.1 v_lines_count v_seatCount q4.2.2.2.2.1 q4.2.2.2.2.2.1 q4.2.2.2.2.2.2.1 q4.1 q4.2.1 q4.2.2.1 q4.2.2.2.1 v_heaps_papers v_heaps_sets q3.2 v_lines_digits v_lines_fewer v_lines_sets q4.2.2.2.2.2.2.2.1 q4.2.2.2.2.2.2.2.2.1 q4.2.2.2.2.2.2.2.2.2 v_worths_together)) (As := [.int x1, .ref a_heaps, .int x2]) (rest := []) C (c_X8_run l D cyI cyJ cyZ a_heaps a_heaps_sets a_heaps_papers a_worths a_worths_each a_worths_together a_lawful a_lawful_row a_ways_loads a_ways_loads_upper a_ways_purses a_ways_purses_upper a_ways a_ways_order v_heaps_count q3.1 v_ways_loads_lower v_ways_purses_lower v_ways_purses_rest v_ways_purses_payers v_ways_count v_ways_chosen v_ways_paidCount v_heaps_papers v_heaps_sets v_worths_together q3.2 v_ways_loads_upper v_ways_order v_ways_purses_upper x1 x2 q4 hq4) cw219 hP hD hS [0, 7, 1, 5, 6, 4, 8, 9, 17, 10, 14, 15, 16] [2, 3, 11, 12, 13] [5, 7, 0, 1, 10, 8, 9, 6, 11, 12, 14, 2, 3, 4, 15, 16, 17, 13] rfl rfl rfl (by decide) 5 (ci := 7) rfl rfl rfl rfl rfl hl.1 (Nat.le_of_ble_eq_true rfl) dX10_runWay_27 ⟨Nat.zero_le _, Nat.zero_le _⟩ (fun H locs hP hD hS => ?_)
    obtain rfl := Option.some.inj hf
    exact hret _ _ _ _ dX10_runWay_30 hP hD hS
abbrev rm_X10_choose : Room := { frames := 7, cells := 0, slots := 0, locals := 174 }
abbrev wd_X10_choose (cyI cyJ cyZ : ClassId) (a_heaps a_heaps_sets a_heaps_papers a_worths a_lawful a_lawful_row a_lines a_lines_sets a_lines_digits a_lines_fewer a_this a_trial a_text a_groups a_ways a_ways_loads a_ways_purses a_ways_order a_ways_loads_upper a_ways_purses_upper a_worths_each a_worths_together : Nat) (v_heaps_count : Int32) (v_lawful_count : Int32) (v_lines_count : Int32) (v_seatCount : Int32) (v_ways_count : Int32) (v_ways_chosen : Int32) (v_ways_paidCount : Int32) (v_ways_loads_lower : Int64) (v_ways_purses_lower : Int64) (v_ways_purses_rest : Int64) (v_ways_purses_payers : Int32) (v_heaps_papers : Nat → Int32) (v_heaps_sets : Nat → Int32) (v_lawful_row : Nat → Int32) (v_lines_digits : Nat → Int32) (v_lines_fewer : Nat → Int32) (v_lines_sets : Nat → Int32) (v_ways_loads_upper : Nat → Int64) (v_ways_order : Nat → Int32) (v_ways_purses_upper : Nat → Int64) (v_worths_together : Nat → Int32) : va_W := [(a_heaps, .inr (2, [.ref a_heaps_sets, .ref a_heaps_papers, .ref a_worths, .int v_heaps_count])), (a_lawful, .inr (0, [.ref a_lawful_row, .int v_lawful_count])), (a_lines, .inr (3, [.ref a_lines_sets, .ref a_lines_digits, .ref a_lines_fewer, .int v_lines_count])), (a_this, .inr (9, [.ref a_worths, .ref a_heaps, .ref a_trial, .ref a_text, .ref a_lines, .ref a_lawful, .ref a_groups, .ref a_ways, .int v_seatCount])), (a_ways, .inr (7, [.ref a_ways_loads, .ref a_ways_purses, .ref a_lawful, .ref a_ways_order, .int v_ways_count, .int v_ways_chosen, .int v_ways_paidCount])), (a_ways_loads, .inr (4, [.ref a_ways_loads_upper, .long v_ways_loads_lower])), (a_ways_purses, .inr (5, [.ref a_ways_purses_upper, .long v_ways_purses_lower, .long v_ways_purses_rest, .int v_ways_purses_payers])), (a_worths, .inr (8, [.ref a_worths_each, .ref a_worths_together])), (a_heaps_papers, .inl (cyI, 7, .inl v_heaps_papers)), (a_heaps_sets, .inl (cyI, 7, .inl v_heaps_sets)), (a_lawful_row, .inl (cyI, 70, .inl v_lawful_row)), (a_lines_digits, .inl (cyI, 10, .inl v_lines_digits)), (a_lines_fewer, .inl (cyZ, 10, .inl v_lines_fewer)), (a_lines_sets, .inl (cyI, 10, .inl v_lines_sets)), (a_ways_loads_upper, .inl (cyJ, 7, .inr (.inl v_ways_loads_upper))), (a_ways_order, .inl (cyI, 4, .inl v_ways_order)), (a_ways_purses_upper, .inl (cyJ, 7, .inr (.inl v_ways_purses_upper))), (a_worths_together, .inl (cyI, 9, .inl v_worths_together))]
def f_X10_choose (x1 : Int32) (x2 : Int32) (v_heaps_count : Int32) (v_lawful_count : Int32) (v_lines_count : Int32) (v_seatCount : Int32) (v_ways_count : Int32) (v_ways_chosen : Int32) (v_ways_paidCount : Int32) (v_ways_loads_lower : Int64) (v_ways_purses_lower : Int64) (v_ways_purses_rest : Int64) (v_ways_purses_payers : Int32) (v_heaps_papers : Nat → Int32) (v_heaps_sets : Nat → Int32) (v_lawful_row : Nat → Int32) (v_lines_digits : Nat → Int32) (v_lines_fewer : Nat → Int32) (v_lines_sets : Nat → Int32) (v_ways_loads_upper : Nat → Int64) (v_ways_order : Nat → Int32) (v_ways_purses_upper : Nat → Int64) (v_worths_together : Nat → Int32) : Option (Int32 × Int32 × Int32 × Int32 × Int32 × Int64 × Int64 × Int64 × Int32 × (Nat → Int32) × (Nat → Int64) × (Nat → Int32) × (Nat → Int64)) := (f_X10_isWay x1).bind (fun q1 => (if q1 = 0 then some ((-1 : Int32), v_lawful_count, v_ways_count, v_ways_chosen, v_ways_paidCount, v_ways_loads_lower, v_ways_purses_lower, v_ways_purses_rest, v_ways_purses_payers, v_lawful_row, v_ways_loads_upper, v_ways_order, v_ways_purses_upper) else (f_X10_runWay x1 v_seatCount v_heaps_count v_lawful_count v_lines_count v_ways_count v_ways_chosen v_ways_paidCount v_ways_loads_lower v_ways_purses_lower v_ways_purses_rest v_ways_purses_payers v_heaps_papers v_heaps_sets v_lawful_row v_lines_digits v_lines_fewer v_lines_sets v_ways_loads_upper v_ways_order v_ways_purses_upper v_worths_together).bind (fun q3 => (if x2 = (-1 : Int32) then some (q3.2.2.1, q3.1, q3.2.1, q3.2.2.1, q3.2.2.2.1, q3.2.2.2.2.1, q3.2.2.2.2.2.1, q3.2.2.2.2.2.2.1, q3.2.2.2.2.2.2.2.1, q3.2.2.2.2.2.2.2.2.1, q3.2.2.2.2.2.2.2.2.2.1, q3.2.2.2.2.2.2.2.2.2.2.1, q3.2.2.2.2.2.2.2.2.2.2.2) else (f_X8_chosenAt x2 q3.2.1 q3.2.2.2.2.2.2.2.2.2.2.1).bind (fun q5 => some (q5, q3.1, q3.2.1, q3.2.2.1, q3.2.2.2.1, q3.2.2.2.2.1, q3.2.2.2.2.2.1, q3.2.2.2.2.2.2.1, q3.2.2.2.2.2.2.2.1, q3.2.2.2.2.2.2.2.2.1, q3.2.2.2.2.2.2.2.2.2.1, q3.2.2.2.2.2.2.2.2.2.2.1, q3.2.2.2.2.2.2.2.2.2.2.2))))))
set_option maxHeartbeats 4000000 in
set_option maxRecDepth 100000 in
theorem c_X10_choose (l : Launch) (D : va_G) (cyI cyJ cyZ : ClassId) (a_heaps a_heaps_sets a_heaps_papers a_worths a_lawful a_lawful_row a_lines a_lines_sets a_lines_digits a_lines_fewer a_this a_trial a_text a_groups a_ways a_ways_loads a_ways_purses a_ways_order a_ways_loads_upper a_ways_purses_upper a_worths_each a_worths_together : Nat) (v_heaps_count : Int32) (v_lawful_count : Int32) (v_lines_count : Int32) (v_seatCount : Int32) (v_ways_count : Int32) (v_ways_chosen : Int32) (v_ways_paidCount : Int32) (v_ways_loads_lower : Int64) (v_ways_purses_lower : Int64) (v_ways_purses_rest : Int64) (v_ways_purses_payers : Int32) (v_heaps_papers : Nat → Int32) (v_heaps_sets : Nat → Int32) (v_lawful_row : Nat → Int32) (v_lines_digits : Nat → Int32) (v_lines_fewer : Nat → Int32) (v_lines_sets : Nat → Int32) (v_ways_loads_upper : Nat → Int64) (v_ways_order : Nat → Int32) (v_ways_purses_upper : Nat → Int64) (v_worths_together : Nat → Int32) (x1 : Int32) (x2 : Int32) (q : Int32 × Int32 × Int32 × Int32 × Int32 × Int64 × Int64 × Int64 × Int32 × (Nat → Int32) × (Nat → Int64) × (Nat → Int32) × (Nat → Int64)) (hf : f_X10_choose x1 x2 v_heaps_count v_lawful_count v_lines_count v_seatCount v_ways_count v_ways_chosen v_ways_paidCount v_ways_loads_lower v_ways_purses_lower v_ways_purses_rest v_ways_purses_payers v_heaps_papers v_heaps_sets v_lawful_row v_lines_digits v_lines_fewer v_lines_sets v_ways_loads_upper v_ways_order v_ways_purses_upper v_worths_together = some q) : kMi l yX10_choose wsX10_choose rm_X10_choose D (kTy cyI cyJ cyZ) [.ref a_this, .int x1, .int x2] (wd_X10_choose cyI cyJ cyZ a_heaps a_heaps_sets a_heaps_papers a_worths a_lawful a_lawful_row a_lines a_lines_sets a_lines_digits a_lines_fewer a_this a_trial a_text a_groups a_ways a_ways_loads a_ways_purses a_ways_order a_ways_loads_upper a_ways_purses_upper a_worths_each a_worths_together v_heaps_count v_lawful_count v_lines_count v_seatCount v_ways_count v_ways_chosen v_ways_paidCount v_ways_loads_lower v_ways_purses_lower v_ways_purses_rest v_ways_purses_payers v_heaps_papers v_heaps_sets v_lawful_row v_lines_digits v_lines_fewer v_lines_sets v_ways_loads_upper v_ways_order v_ways_purses_upper v_worths_together) (wd_X10_choose cyI cyJ cyZ a_heaps a_heaps_sets a_heaps_papers a_worths a_lawful a_lawful_row a_lines a_lines_sets a_lines_digits a_lines_fewer a_this a_trial a_text a_groups a_ways a_ways_loads a_ways_purses a_ways_order a_ways_loads_upper a_ways_purses_upper a_worths_each a_worths_together v_heaps_count q.2.1 v_lines_count v_seatCount q.2.2.1 q.2.2.2.1 q.2.2.2.2.1 q.2.2.2.2.2.1 q.2.2.2.2.2.2.1 q.2.2.2.2.2.2.2.1 q.2.2.2.2.2.2.2.2.1 v_heaps_papers v_heaps_sets q.2.2.2.2.2.2.2.2.2.1 v_lines_digits v_lines_fewer v_lines_sets q.2.2.2.2.2.2.2.2.2.2.1 q.2.2.2.2.2.2.2.2.2.2.2.1 q.2.2.2.2.2.2.2.2.2.2.2.2 v_worths_together) q.1 := by
  refine kMi_of (cc := cX10_choose) (nL := 3) (own := RX10) (by decide) rfl rfl (Nat.le_of_ble_eq_true rfl) ?_
  intro p e s m below meth c A Q ls C hret hP hD hS hl
  have hl : lv_has ls 3 [(0, .ref a_this), (1, .int x1), (2, .int x2)] := hl
  unfold f_X10_choose at hf
  obtain ⟨hx, hb, hml, hown, hts, hK, hA⟩ := id C
  have iX10 : ∀ w ∈ u_ws RX10 TX10 9, w ∈ wsX10_choose := by decide +kernel
  have iX8 : ∀ w ∈ u_ws RX8 TX8 7, w ∈ wsX10_choose := by decide +kernel
  have fl61 := hts (.fieldLink RX10 61 "FairSeats" "ways" "LFairSeats$Ways;") (by decide +kernel)
  have fl65 := hts (.fieldLink RX10 65 "FairSeats" "seatCount" "I") (by decide +kernel)
  have fl140 := hts (.fieldLink RX10 140 "FairSeats$Ways" "chosen" "I") (by decide +kernel)
  have cw134 := va_cwS (R := rm_X10_choose) (rm := rm_X10_isWay) 1 hts gX10_choose_X10_isWay rfl rfl rfl (by decide +kernel) ⟨Nat.le_of_ble_eq_true rfl, Nat.le_of_ble_eq_true rfl⟩
  have cw137 := cwV (R := rm_X10_choose) (rm := rm_X10_runWay) 2 hts gX10_choose_X10_runWay rfl rfl rfl (by decide +kernel) ⟨Nat.le_of_ble_eq_true rfl, Nat.le_of_ble_eq_true rfl⟩
  have cw143 := cwV (R := rm_X10_choose) (rm := rm_X8_chosenAt) 1 hts gX10_choose_X8_chosenAt rfl rfl rfl (by decide +kernel) ⟨Nat.le_of_ble_eq_true rfl, Nat.le_of_ble_eq_true rfl⟩
  refine lv_iload_n hx hb dX10_choose_0 rfl (lv_at hl 1 rfl) ?_
  obtain ⟨q1, hq1, hf⟩ := ob_bind hf
  refine k_Sz (wo := (wd_X10_choose cyI cyJ cyZ a_heaps a_heaps_sets a_heaps_papers a_worths a_lawful a_lawful_row a_lines a_lines_sets a_lines_digits a_lines_fewer a_this a_trial a_text a_groups a_ways a_ways_loads a_ways_purses a_ways_order a_ways_loads_upper a_ways_purses_upper a_worths_each a_worths_together v_heaps_count v_lawful_count v_lines_count v_seatCount v_ways_count v_ways_chosen v_ways_paidCount v_ways_loads_lower v_ways_purses_lower v_ways_purses_rest v_ways_purses_payers v_heaps_papers v_heaps_sets v_lawful_row v_lines_digits v_lines_fewer v_lines_sets v_ways_loads_upper v_ways_order v_ways_purses_upper v_worths_together)) (As := [.int x1]) (rest := []) C (c_X10_isWay l D cyI cyJ cyZ   x1 q1 hq1) cw134 hP hD hS [] [0, 1, 2, 3, 4, 5, 6, 7, 8, 9, 10, 11, 12, 13, 14, 15, 16, 17] [0, 1, 2, 3, 4, 5, 6, 7, 8, 9, 10, 11, 12, 13, 14, 15, 16, 17] rfl rfl rfl (by decide) rfl rfl hl.1 (Nat.le_of_ble_eq_true rfl) dX10_choose_1 ⟨Nat.zero_le _, Nat.zero_le _⟩ (fun H locs zq1 hP hD hS => ?_)
  refine lv_if_ne (tgt := 9) hx hb dX10_choose_4 (by decide) (fun c2 => ?_) (fun c2 => ?_)
  · have hf := ob_neg c2 hf
    refine lv_aload_n hx hb dX10_choose_9 rfl (lv_at hl 0 rfl) ?_
    refine lv_iload_n hx hb dX10_choose_10 rfl (lv_at hl 1 rfl) ?_
    refine lv_aload_n hx hb dX10_choose_11 rfl (lv_at hl 0 rfl) ?_
    refine va_get (D := D) (ci := 9) (v := .int v_seatCount) (C := RX10) (T := TX10) (N := 9) hx hb hts iX10 hown hK hP 3 rfl rfl 8 (by decide) fl65 (fun _ h9 => h9) rfl dX10_choose_12 ?_
    obtain ⟨q3, hq3, hf⟩ := ob_bind hf
    refine k_Vv (wo := (wd_X10_choose cyI cyJ cyZ a_heaps a_heaps_sets a_heaps_papers a_worths a_lawful a_lawful_row a_lines a_lines_sets a_lines_digits a_lines_fewer a_this a_trial a_text a_groups a_ways a_ways_loads a_ways_purses a_ways_order a_ways_loads_upper a_ways_purses_upper a_worths_each a_worths_together v_heaps_count q3.1 v_lines_count v_seatCount q3.2.1 q3.2.2.1 q3.2.2.2.1 q3.2.2.2.2.1 q3.2.2.2.2.2.1 q3.2.2.2.2.2.2.1 q3.2.2.2.2.2.2.2.1 v_heaps_papers v_heaps_sets q3.2.2.2.2.2.2.2.2.1 v_lines_digits v_lines_fewer v_lines_sets q3.2.2.2.2.2.2.2.2.2.1 q3.2.2.2.2.2.2.2.2.2.2.1 q3.2.2.2.2.2.2.2.2.2.2.2 v_worths_together)) (As := [.int x1, .int v_seatCount]) (rest := []) C (c_X10_runWay l D cyI cyJ cyZ a_heaps a_heaps_sets a_heaps_papers a_worths a_lawful a_lawful_row a_lines a_lines_sets a_lines_digits a_lines_fewer a_this a_trial a_text a_groups a_ways a_ways_loads a_ways_purses a_ways_order a_ways_loads_upper a_ways_purses_upper a_worths_each a_worths_together v_heaps_count v_lawful_count v_lines_count v_seatCount v_ways_count v_ways_chosen v_ways_paidCount v_ways_loads_lower v_ways_purses_lower v_ways_purses_rest v_ways_purses_payers v_heaps_papers v_heaps_sets v_lawful_row v_lines_digits v_lines_fewer v_lines_sets v_ways_loads_upper v_ways_order v_ways_purses_upper v_worths_together x1 v_seatCount q3 hq3) cw137 hP hD hS [0, 1, 2, 3, 4, 5, 6, 7, 8, 9, 10, 11, 12, 13, 14, 15, 16, 17] [] [0, 1, 2, 3, 4, 5, 6, 7, 8, 9, 10, 11, 12, 13, 14, 15, 16, 17] rfl rfl rfl (by decide) 3 (ci := 9) rfl rfl rfl rfl rfl hl.1 (Nat.le_of_ble_eq_true rfl) dX10_choose_15 ⟨Nat.zero_le _, Nat.zero_le _⟩ (fun H locs hP hD hS => ?_)
    refine lv_iload_n hx hb dX10_choose_18 rfl (lv_at hl 2 rfl) ?_
    refine lv_iconst (v := (-1 : Int32)) hx hb dX10_choose_19 (by decide) ?_
    refine lv_icmp_ne (tgt := 33) hx hb dX10_choose_20 (by decide) (fun c4 => ?_) (fun c4 => ?_)
    · have hf := ob_neg c4 hf
      refine lv_aload_n hx hb dX10_choose_33 rfl (lv_at hl 0 rfl) ?_
      refine va_get (D := D) (ci := 9) (v := .ref a_ways) (C := RX10) (T := TX10) (N := 9) hx hb hts iX10 hown hK hP 3 rfl rfl 7 (by decide) fl61 (fun _ h9 => h9) rfl dX10_choose_34 ?_
      refine lv_iload_n hx hb dX10_choose_37 rfl (lv_at hl 2 rfl) ?_
      obtain ⟨q5, hq5, hf⟩ := ob_bind hf
      refine k_Vi (wo := (wd_X10_choose cyI cyJ cyZ a_heaps a_heaps_sets a_heaps_papers a_worths a_lawful a_lawful_row a_lines a_lines_sets a_lines_digits a_lines_fewer a_this a_trial a_text a_groups a_ways a_ways_loads a_ways_purses a_ways_order a_ways_loads_upper a_ways_purses_upper a_worths_each a_worths_together v_heaps_count q3.1 v_lines_count v_seatCount q3.2.1 q3.2.2.1 q3.2.2.2.1 q3.2.2.2.2.1 q3.2.2.2.2.2.1 q3.2.2.2.2.2.2.1 q3.2.2.2.2.2.2.2.1 v_heaps_papers v_heaps_sets q3.2.2.2.2.2.2.2.2.1 v_lines_digits v_lines_fewer v_lines_sets q3.2.2.2.2.2.2.2.2.2.1 q3.2.2.2.2.2.2.2.2.2.2.1 q3.2.2.2.2.2.2.2.2.2.2.2 v_worths_together)) (As := [.int x2]) (rest := []) C (c_X8_chosenAt l D cyI cyJ cyZ a_ways a_ways_loads a_ways_purses a_lawful a_ways_order q3.2.1 q3.2.2.1 q3.2.2.2.1 q3.2.2.2.2.2.2.2.2.2.2.1 x2 q5 hq5) cw143 hP hD hS [4, 15] [0, 1, 2, 3, 5, 6, 7, 8, 9, 10, 11, 12, 13, 14, 16, 17] [0, 1, 2, 3, 16, 4, 5, 6, 7, 8, 9, 10, 11, 12, 13, 17, 14, 15] rfl rfl rfl (by decide) 0 (ci := 7) rfl rfl rfl rfl rfl hl.1 (Nat.le_of_ble_eq_true rfl) dX10_choose_38 ⟨Nat.zero_le _, Nat.zero_le _⟩ (fun H locs hP hD hS => ?_)
      obtain rfl := Option.some.inj hf
      exact hret _ _ _ _ dX10_choose_41 hP hD hS
    · have hf := ob_pos c4 hf
      refine lv_aload_n hx hb dX10_choose_23 rfl (lv_at hl 0 rfl) ?_
      refine va_get (D := D) (ci := 9) (v := .ref a_ways) (C := RX10) (T := TX10) (N := 9) hx hb hts iX10 hown hK hP 3 rfl rfl 7 (by decide) fl61 (fun _ h9 => h9) rfl dX10_choose_24 ?_
      refine va_get (D := D) (ci := 7) (v := .int q3.2.2.1) (C := RX8) (T := TX8) (N := 7) hx hb hts iX8 hown hK hP 4 rfl rfl 5 (by decide) fl140 (fun _ h9 => h9) rfl dX10_choose_27 ?_
      refine lv_goto (tgt := 41) hx hb dX10_choose_30 (by decide) ?_
      obtain rfl := Option.some.inj hf
      exact hret _ _ _ _ dX10_choose_41 hP hD hS
  · have hf := ob_pos c2 hf
    refine lv_iconst (v := (-1 : Int32)) hx hb dX10_choose_7 (by decide) ?_
    obtain rfl := Option.some.inj hf
    exact hret _ _ _ _ dX10_choose_8 hP hD hS
abbrev rm_X10_refusalOfShare : Room := { frames := 1, cells := 0, slots := 0, locals := 21 }
abbrev wd_X10_refusalOfShare (cyI cyJ cyZ : ClassId) (a_heaps a_heaps_sets a_heaps_papers a_worths a_this a_trial a_text a_lines a_lawful a_groups a_ways : Nat) (v_heaps_count : Int32) (v_seatCount : Int32) : va_W := [(a_heaps, .inr (2, [.ref a_heaps_sets, .ref a_heaps_papers, .ref a_worths, .int v_heaps_count])), (a_this, .inr (9, [.ref a_worths, .ref a_heaps, .ref a_trial, .ref a_text, .ref a_lines, .ref a_lawful, .ref a_groups, .ref a_ways, .int v_seatCount]))]
def f_X10_refusalOfShare (x1 : Int32) (x2 : Int32) (x3 : Int32) (v_heaps_count : Int32) (v_seatCount : Int32) : Option (Int32) := (f_X10_isHeap x1 v_heaps_count).bind (fun q1 => (if q1 = 0 then some (-1 : Int32) else (if x2 < 0 then some (-2 : Int32) else (if v_seatCount < x2 then some (-2 : Int32) else (if x3 < 0 then some (-2 : Int32) else (if x3 ≤ (1 : Int32) then some (0 : Int32) else some (-2 : Int32)))))))
set_option maxHeartbeats 4000000 in
set_option maxRecDepth 100000 in
theorem c_X10_refusalOfShare (l : Launch) (D : va_G) (cyI cyJ cyZ : ClassId) (a_heaps a_heaps_sets a_heaps_papers a_worths a_this a_trial a_text a_lines a_lawful a_groups a_ways : Nat) (v_heaps_count : Int32) (v_seatCount : Int32) (x1 : Int32) (x2 : Int32) (x3 : Int32) (q : Int32) (hf : f_X10_refusalOfShare x1 x2 x3 v_heaps_count v_seatCount = some q) : kMi l yX10_refusalOfShare wsX10_refusalOfShare rm_X10_refusalOfShare D (kTy cyI cyJ cyZ) [.ref a_this, .int x1, .int x2, .int x3] (wd_X10_refusalOfShare cyI cyJ cyZ a_heaps a_heaps_sets a_heaps_papers a_worths a_this a_trial a_text a_lines a_lawful a_groups a_ways v_heaps_count v_seatCount) (wd_X10_refusalOfShare cyI cyJ cyZ a_heaps a_heaps_sets a_heaps_papers a_worths a_this a_trial a_text a_lines a_lawful a_groups a_ways v_heaps_count v_seatCount) q := by
  refine kMi_of (cc := cX10_refusalOfShare) (nL := 4) (own := RX10) (by decide) rfl rfl (Nat.le_of_ble_eq_true rfl) ?_
  intro p e s m below meth c A Q ls C hret hP hD hS hl
  have hl : lv_has ls 4 [(0, .ref a_this), (1, .int x1), (2, .int x2), (3, .int x3)] := hl
  unfold f_X10_refusalOfShare at hf
  obtain ⟨hx, hb, hml, hown, hts, hK, hA⟩ := id C
  have iX10 : ∀ w ∈ u_ws RX10 TX10 9, w ∈ wsX10_refusalOfShare := by decide +kernel
  have fl65 := hts (.fieldLink RX10 65 "FairSeats" "seatCount" "I") (by decide +kernel)
  have cw83 := cwV (R := rm_X10_refusalOfShare) (rm := rm_X10_isHeap) 1 hts gX10_refusalOfShare_X10_isHeap rfl rfl rfl (by decide +kernel) ⟨Nat.le_of_ble_eq_true rfl, Nat.le_of_ble_eq_true rfl⟩
  refine lv_aload_n hx hb dX10_refusalOfShare_0 rfl (lv_at hl 0 rfl) ?_
  refine lv_iload_n hx hb dX10_refusalOfShare_1 rfl (lv_at hl 1 rfl) ?_
  obtain ⟨q1, hq1, hf⟩ := ob_bind hf
  refine k_Vz (wo := (wd_X10_refusalOfShare cyI cyJ cyZ a_heaps a_heaps_sets a_heaps_papers a_worths a_this a_trial a_text a_lines a_lawful a_groups a_ways v_heaps_count v_seatCount)) (As := [.int x1]) (rest := []) C (c_X10_isHeap l D cyI cyJ cyZ a_heaps a_heaps_sets a_heaps_papers a_worths a_this a_trial a_text a_lines a_lawful a_groups a_ways v_heaps_count v_seatCount x1 q1 hq1) cw83 hP hD hS [0, 1] [] [0, 1] rfl rfl rfl (by decide) 1 (ci := 9) rfl rfl rfl rfl rfl hl.1 (Nat.le_of_ble_eq_true rfl) dX10_refusalOfShare_2 ⟨Nat.zero_le _, Nat.zero_le _⟩ (fun H locs zq1 hP hD hS => ?_)
  refine lv_if_ne (tgt := 10) hx hb dX10_refusalOfShare_5 (by decide) (fun c2 => ?_) (fun c2 => ?_)
  · have hf := ob_neg c2 hf
    refine lv_iload_n hx hb dX10_refusalOfShare_10 rfl (lv_at hl 2 rfl) ?_
    refine lv_if_lt (tgt := 31) hx hb dX10_refusalOfShare_11 (by decide) (fun c3 => ?_) (fun c3 => ?_)
    · have hf := ob_pos c3 hf
      refine lv_bipush (v := (-2 : Int32)) hx hb dX10_refusalOfShare_31 (by decide) ?_
      refine lv_goto (tgt := 37) hx hb dX10_refusalOfShare_33 (by decide) ?_
      obtain rfl := Option.some.inj hf
      exact hret _ _ _ _ dX10_refusalOfShare_37 hP hD hS
    · have hf := ob_neg c3 hf
      refine lv_iload_n hx hb dX10_refusalOfShare_14 rfl (lv_at hl 2 rfl) ?_
      refine lv_aload_n hx hb dX10_refusalOfShare_15 rfl (lv_at hl 0 rfl) ?_
      refine va_get (D := D) (ci := 9) (v := .int v_seatCount) (C := RX10) (T := TX10) (N := 9) hx hb hts iX10 hown hK hP 1 rfl rfl 8 (by decide) fl65 (fun _ h9 => h9) rfl dX10_refusalOfShare_16 ?_
      refine lv_icmp_gt (tgt := 31) hx hb dX10_refusalOfShare_19 (by decide) (fun c4 => ?_) (fun c4 => ?_)
      · have hf := ob_pos c4 hf
        refine lv_bipush (v := (-2 : Int32)) hx hb dX10_refusalOfShare_31 (by decide) ?_
        refine lv_goto (tgt := 37) hx hb dX10_refusalOfShare_33 (by decide) ?_
        obtain rfl := Option.some.inj hf
        exact hret _ _ _ _ dX10_refusalOfShare_37 hP hD hS
      · have hf := ob_neg c4 hf
        refine lv_iload_n hx hb dX10_refusalOfShare_22 rfl (lv_at hl 3 rfl) ?_
        refine lv_if_lt (tgt := 31) hx hb dX10_refusalOfShare_23 (by decide) (fun c5 => ?_) (fun c5 => ?_)
        · have hf := ob_pos c5 hf
          refine lv_bipush (v := (-2 : Int32)) hx hb dX10_refusalOfShare_31 (by decide) ?_
          refine lv_goto (tgt := 37) hx hb dX10_refusalOfShare_33 (by decide) ?_
          obtain rfl := Option.some.inj hf
          exact hret _ _ _ _ dX10_refusalOfShare_37 hP hD hS
        · have hf := ob_neg c5 hf
          refine lv_iload_n hx hb dX10_refusalOfShare_26 rfl (lv_at hl 3 rfl) ?_
          refine lv_iconst (v := (1 : Int32)) hx hb dX10_refusalOfShare_27 (by decide) ?_
          refine lv_icmp_le (tgt := 36) hx hb dX10_refusalOfShare_28 (by decide) (fun c6 => ?_) (fun c6 => ?_)
          · have hf := ob_pos c6 hf
            refine lv_iconst (v := (0 : Int32)) hx hb dX10_refusalOfShare_36 (by decide) ?_
            obtain rfl := Option.some.inj hf
            exact hret _ _ _ _ dX10_refusalOfShare_37 hP hD hS
          · have hf := ob_neg c6 hf
            refine lv_bipush (v := (-2 : Int32)) hx hb dX10_refusalOfShare_31 (by decide) ?_
            refine lv_goto (tgt := 37) hx hb dX10_refusalOfShare_33 (by decide) ?_
            obtain rfl := Option.some.inj hf
            exact hret _ _ _ _ dX10_refusalOfShare_37 hP hD hS
  · have hf := ob_pos c2 hf
    refine lv_iconst (v := (-1 : Int32)) hx hb dX10_refusalOfShare_8 (by decide) ?_
    obtain rfl := Option.some.inj hf
    exact hret _ _ _ _ dX10_refusalOfShare_9 hP hD hS
abbrev rm_X10_load : Room := { frames := 4, cells := 0, slots := 0, locals := 102 }
abbrev wd_X10_load (cyI cyJ cyZ : ClassId) (a_heaps a_heaps_sets a_heaps_papers a_worths a_this a_trial a_text a_lines a_lawful a_groups a_ways a_ways_loads a_ways_purses a_ways_order a_ways_loads_upper : Nat) (v_heaps_count : Int32) (v_seatCount : Int32) (v_ways_count : Int32) (v_ways_chosen : Int32) (v_ways_paidCount : Int32) (v_ways_loads_lower : Int64) (v_heaps_papers : Nat → Int32) (v_heaps_sets : Nat → Int32) (v_ways_loads_upper : Nat → Int64) (v_ways_order : Nat → Int32) : va_W := [(a_heaps, .inr (2, [.ref a_heaps_sets, .ref a_heaps_papers, .ref a_worths, .int v_heaps_count])), (a_this, .inr (9, [.ref a_worths, .ref a_heaps, .ref a_trial, .ref a_text, .ref a_lines, .ref a_lawful, .ref a_groups, .ref a_ways, .int v_seatCount])), (a_ways, .inr (7, [.ref a_ways_loads, .ref a_ways_purses, .ref a_lawful, .ref a_ways_order, .int v_ways_count, .int v_ways_chosen, .int v_ways_paidCount])), (a_ways_loads, .inr (4, [.ref a_ways_loads_upper, .long v_ways_loads_lower])), (a_heaps_papers, .inl (cyI, 7, .inl v_heaps_papers)), (a_heaps_sets, .inl (cyI, 7, .inl v_heaps_sets)), (a_ways_loads_upper, .inl (cyJ, 7, .inr (.inl v_ways_loads_upper))), (a_ways_order, .inl (cyI, 4, .inl v_ways_order))]
def f_X10_load (x1 : Int32) (x2 : Int32) (x3 : Int32) (v_heaps_count : Int32) (v_seatCount : Int32) (v_ways_count : Int32) (v_ways_chosen : Int32) (v_ways_loads_lower : Int64) (v_heaps_papers : Nat → Int32) (v_heaps_sets : Nat → Int32) (v_ways_loads_upper : Nat → Int64) (v_ways_order : Nat → Int32) : Option (Int64 × Int32 × Int32 × Int64 × (Nat → Int64) × (Nat → Int32)) := (f_X10_refusalOfShare x1 x2 x3 v_heaps_count v_seatCount).bind (fun q1 => (if q1 = 0 then (f_X8_byLoads x2 v_heaps_count v_ways_loads_lower v_ways_count v_ways_chosen v_heaps_papers v_heaps_sets v_ways_loads_upper v_ways_order).bind (fun q3 => (f_X1_lowest_X5 x1 x3 q3.1 q3.2.2.2.1).bind (fun q4 => some (q4, q3.2.1, q3.2.2.1, q3.1, q3.2.2.2.1, q3.2.2.2.2))) else some (((-1000000000000000000 : Int64) + (q1).toInt64), v_ways_count, v_ways_chosen, v_ways_loads_lower, v_ways_loads_upper, v_ways_order)))
set_option maxHeartbeats 4000000 in
set_option maxRecDepth 100000 in
theorem c_X10_load (l : Launch) (D : va_G) (cyI cyJ cyZ : ClassId) (a_heaps a_heaps_sets a_heaps_papers a_worths a_this a_trial a_text a_lines a_lawful a_groups a_ways a_ways_loads a_ways_purses a_ways_order a_ways_loads_upper : Nat) (v_heaps_count : Int32) (v_seatCount : Int32) (v_ways_count : Int32) (v_ways_chosen : Int32) (v_ways_paidCount : Int32) (v_ways_loads_lower : Int64) (v_heaps_papers : Nat → Int32) (v_heaps_sets : Nat → Int32) (v_ways_loads_upper : Nat → Int64) (v_ways_order : Nat → Int32) (x1 : Int32) (x2 : Int32) (x3 : Int32) (q : Int64 × Int32 × Int32 × Int64 × (Nat → Int64) × (Nat → Int32)) (hf : f_X10_load x1 x2 x3 v_heaps_count v_seatCount v_ways_count v_ways_chosen v_ways_loads_lower v_heaps_papers v_heaps_sets v_ways_loads_upper v_ways_order = some q) : kMl l yX10_load wsX10_load rm_X10_load D (kTy cyI cyJ cyZ) [.ref a_this, .int x1, .int x2, .int x3] (wd_X10_load cyI cyJ cyZ a_heaps a_heaps_sets a_heaps_papers a_worths a_this a_trial a_text a_lines a_lawful a_groups a_ways a_ways_loads a_ways_purses a_ways_order a_ways_loads_upper v_heaps_count v_seatCount v_ways_count v_ways_chosen v_ways_paidCount v_ways_loads_lower v_heaps_papers v_heaps_sets v_ways_loads_upper v_ways_order) (wd_X10_load cyI cyJ cyZ a_heaps a_heaps_sets a_heaps_papers a_worths a_this a_trial a_text a_lines a_lawful a_groups a_ways a_ways_loads a_ways_purses a_ways_order a_ways_loads_upper v_heaps_count v_seatCount q.2.1 q.2.2.1 v_ways_paidCount q.2.2.2.1 v_heaps_papers v_heaps_sets q.2.2.2.2.1 q.2.2.2.2.2) q.1 := by
  refine kMl_of (cc := cX10_load) (nL := 5) (own := RX10) (by decide) rfl rfl (Nat.le_of_ble_eq_true rfl) ?_
  intro p e s m below meth c A Q ls C hret hP hD hS hl
  have hl : lv_has ls 5 [(0, .ref a_this), (1, .int x1), (2, .int x2), (3, .int x3)] := hl
  unfold f_X10_load at hf
  obtain ⟨hx, hb, hml, hown, hts, hK, hA⟩ := id C
  have iX10 : ∀ w ∈ u_ws RX10 TX10 9, w ∈ wsX10_load := by decide +kernel
  have iX8 : ∀ w ∈ u_ws RX8 TX8 7, w ∈ wsX10_load := by decide +kernel
  have fl21 := hts (.fieldLink RX10 21 "FairSeats" "heaps" "LFairSeats$Heaps;") (by decide +kernel)
  have fl61 := hts (.fieldLink RX10 61 "FairSeats" "ways" "LFairSeats$Ways;") (by decide +kernel)
  have fl156 := hts (.fieldLink RX10 156 "FairSeats$Ways" "loads" "LFairSeats$Loads;") (by decide +kernel)
  have cw146 := cwV (R := rm_X10_load) (rm := rm_X10_refusalOfShare) 3 hts gX10_load_X10_refusalOfShare rfl rfl rfl (by decide +kernel) ⟨Nat.le_of_ble_eq_true rfl, Nat.le_of_ble_eq_true rfl⟩
  have cw152 := cwV (R := rm_X10_load) (rm := rm_X8_byLoads) 2 hts gX10_load_X8_byLoads rfl rfl rfl (by decide +kernel) ⟨Nat.le_of_ble_eq_true rfl, Nat.le_of_ble_eq_true rfl⟩
  have cw160 := va_cwU (R := rm_X10_load) (rm := rm_X1_lowest_X5) 2 hts gX10_load_X1_lowest_u160X5 rfl rfl rfl rfl (by decide +kernel) ⟨Nat.le_of_ble_eq_true rfl, Nat.le_of_ble_eq_true rfl⟩
  refine lv_aload_n hx hb dX10_load_0 rfl (lv_at hl 0 rfl) ?_
  refine lv_iload_n hx hb dX10_load_1 rfl (lv_at hl 1 rfl) ?_
  refine lv_iload_n hx hb dX10_load_2 rfl (lv_at hl 2 rfl) ?_
  refine lv_iload_n hx hb dX10_load_3 rfl (lv_at hl 3 rfl) ?_
  obtain ⟨q1, hq1, hf⟩ := ob_bind hf
  refine k_Vi (wo := (wd_X10_load cyI cyJ cyZ a_heaps a_heaps_sets a_heaps_papers a_worths a_this a_trial a_text a_lines a_lawful a_groups a_ways a_ways_loads a_ways_purses a_ways_order a_ways_loads_upper v_heaps_count v_seatCount v_ways_count v_ways_chosen v_ways_paidCount v_ways_loads_lower v_heaps_papers v_heaps_sets v_ways_loads_upper v_ways_order)) (As := [.int x1, .int x2, .int x3]) (rest := []) C (c_X10_refusalOfShare l D cyI cyJ cyZ a_heaps a_heaps_sets a_heaps_papers a_worths a_this a_trial a_text a_lines a_lawful a_groups a_ways v_heaps_count v_seatCount x1 x2 x3 q1 hq1) cw146 hP hD hS [0, 1] [2, 3, 4, 5, 6, 7] [6, 7, 0, 1, 2, 3, 4, 5] rfl rfl rfl (by decide) 1 (ci := 9) rfl rfl rfl rfl rfl hl.1 (Nat.le_of_ble_eq_true rfl) dX10_load_4 ⟨Nat.zero_le _, Nat.zero_le _⟩ (fun H locs hP hD hS => ?_)
  refine lv_istore (lv' := [(4, .int q1), (0, .ref a_this), (1, .int x1), (2, .int x2), (3, .int x3)]) hx hb dX10_load_7 hl (by decide) rfl (fun ls hl => ?_)
  refine lv_iload hx hb dX10_load_9 (lv_at hl 0 rfl) ?_
  refine lv_if_eq (tgt := 22) hx hb dX10_load_11 (by decide) (fun c2 => ?_) (fun c2 => ?_)
  · have hf := ob_pos c2 hf
    refine lv_aload_n hx hb dX10_load_22 rfl (lv_at hl 1 rfl) ?_
    refine va_get (D := D) (ci := 9) (v := .ref a_ways) (C := RX10) (T := TX10) (N := 9) hx hb hts iX10 hown hK hP 1 rfl rfl 7 (by decide) fl61 (fun _ h9 => h9) rfl dX10_load_23 ?_
    refine lv_aload_n hx hb dX10_load_26 rfl (lv_at hl 1 rfl) ?_
    refine va_get (D := D) (ci := 9) (v := .ref a_heaps) (C := RX10) (T := TX10) (N := 9) hx hb hts iX10 hown hK hP 1 rfl rfl 1 (by decide) fl21 (fun _ h9 => h9) rfl dX10_load_27 ?_
    refine lv_iload_n hx hb dX10_load_30 rfl (lv_at hl 3 rfl) ?_
    obtain ⟨q3, hq3, hf⟩ := ob_bind hf
    refine k_Vv (wo := (wd_X10_load cyI cyJ cyZ a_heaps a_heaps_sets a_heaps_papers a_worths a_this a_trial a_text a_lines a_lawful a_groups a_ways a_ways_loads a_ways_purses a_ways_order a_ways_loads_upper v_heaps_count v_seatCount q3.2.1 q3.2.2.1 v_ways_paidCount q3.1 v_heaps_papers v_heaps_sets q3.2.2.2.1 q3.2.2.2.2)) (As := [.ref a_heaps, .int x2]) (rest := []) C (c_X8_byLoads l D cyI cyJ cyZ a_heaps a_heaps_sets a_heaps_papers a_worths a_ways_loads a_ways_loads_upper a_ways a_ways_purses a_lawful a_ways_order v_heaps_count v_ways_loads_lower v_ways_count v_ways_chosen v_ways_paidCount v_heaps_papers v_heaps_sets v_ways_loads_upper v_ways_order x2 q3 hq3) cw152 hP hD hS [0, 3, 2, 4, 5, 6, 7] [1] [1, 0, 3, 2, 4, 5, 6, 7] rfl rfl rfl (by decide) 2 (ci := 7) rfl rfl rfl rfl rfl hl.1 (Nat.le_of_ble_eq_true rfl) dX10_load_31 ⟨Nat.zero_le _, Nat.zero_le _⟩ (fun H locs hP hD hS => ?_)
    refine lv_aload_n hx hb dX10_load_34 rfl (lv_at hl 1 rfl) ?_
    refine va_get (D := D) (ci := 9) (v := .ref a_ways) (C := RX10) (T := TX10) (N := 9) hx hb hts iX10 hown hK hP 1 rfl rfl 7 (by decide) fl61 (fun _ h9 => h9) rfl dX10_load_35 ?_
    refine va_get (D := D) (ci := 7) (v := .ref a_ways_loads) (C := RX8) (T := TX8) (N := 7) hx hb hts iX8 hown hK hP 2 rfl rfl 0 (by decide) fl156 (fun _ h9 => h9) rfl dX10_load_38 ?_
    refine lv_iload_n hx hb dX10_load_41 rfl (lv_at hl 2 rfl) ?_
    refine lv_iload_n hx hb dX10_load_42 rfl (lv_at hl 4 rfl) ?_
    obtain ⟨q4, hq4, hf⟩ := ob_bind hf
    refine k_Ul (wo := (wd_X10_load cyI cyJ cyZ a_heaps a_heaps_sets a_heaps_papers a_worths a_this a_trial a_text a_lines a_lawful a_groups a_ways a_ways_loads a_ways_purses a_ways_order a_ways_loads_upper v_heaps_count v_seatCount q3.2.1 q3.2.2.1 v_ways_paidCount q3.1 v_heaps_papers v_heaps_sets q3.2.2.2.1 q3.2.2.2.2)) (As := [.int x1, .int x3]) (rest := []) C (c_X1_lowest_X5 l D cyI cyJ cyZ a_ways_loads a_ways_loads_upper q3.1 q3.2.2.2.1 x1 x3 q4 hq4) cw160 hP hD hS [3, 6] [0, 1, 2, 4, 5, 7] [0, 1, 2, 6, 3, 4, 7, 5] rfl rfl rfl (by decide) 0 (ci := 4) rfl rfl rfl rfl rfl hl.1 (Nat.le_of_ble_eq_true rfl) dX10_load_43 ⟨Nat.zero_le _, Nat.zero_le _⟩ (fun H locs hP hD hS => ?_)
    obtain rfl := Option.some.inj hf
    exact hret _ _ _ _ dX10_load_46 hP hD hS
  · have hf := ob_neg c2 hf
    refine lv_ldc2 (v := (-1000000000000000000)) hx hb hown (hts (.constantLong RX10 150 (-1000000000000000000)) (by decide +kernel)) dX10_load_14 ?_
    refine lv_iload hx hb dX10_load_17 (lv_at hl 0 rfl) ?_
    refine lv_i2l (v := (q1).toInt64) hx hb dX10_load_19 rfl ?_
    refine lv_ladd hx hb dX10_load_20 ?_
    obtain rfl := Option.some.inj hf
    exact hret _ _ _ _ dX10_load_21 hP hD hS
abbrev rm_X10_purse : Room := { frames := 5, cells := 0, slots := 0, locals := 129 }
abbrev wd_X10_purse (cyI cyJ cyZ : ClassId) (a_heaps a_heaps_sets a_heaps_papers a_worths a_this a_trial a_text a_lines a_lawful a_groups a_ways a_ways_loads a_ways_purses a_ways_order a_ways_purses_upper : Nat) (v_heaps_count : Int32) (v_seatCount : Int32) (v_ways_count : Int32) (v_ways_chosen : Int32) (v_ways_paidCount : Int32) (v_ways_purses_lower : Int64) (v_ways_purses_rest : Int64) (v_ways_purses_payers : Int32) (v_heaps_papers : Nat → Int32) (v_heaps_sets : Nat → Int32) (v_ways_order : Nat → Int32) (v_ways_purses_upper : Nat → Int64) : va_W := [(a_heaps, .inr (2, [.ref a_heaps_sets, .ref a_heaps_papers, .ref a_worths, .int v_heaps_count])), (a_this, .inr (9, [.ref a_worths, .ref a_heaps, .ref a_trial, .ref a_text, .ref a_lines, .ref a_lawful, .ref a_groups, .ref a_ways, .int v_seatCount])), (a_ways, .inr (7, [.ref a_ways_loads, .ref a_ways_purses, .ref a_lawful, .ref a_ways_order, .int v_ways_count, .int v_ways_chosen, .int v_ways_paidCount])), (a_ways_purses, .inr (5, [.ref a_ways_purses_upper, .long v_ways_purses_lower, .long v_ways_purses_rest, .int v_ways_purses_payers])), (a_heaps_papers, .inl (cyI, 7, .inl v_heaps_papers)), (a_heaps_sets, .inl (cyI, 7, .inl v_heaps_sets)), (a_ways_order, .inl (cyI, 4, .inl v_ways_order)), (a_ways_purses_upper, .inl (cyJ, 7, .inr (.inl v_ways_purses_upper)))]
def f_X10_purse (x1 : Int32) (x2 : Int32) (x3 : Int32) (v_heaps_count : Int32) (v_seatCount : Int32) (v_ways_count : Int32) (v_ways_chosen : Int32) (v_ways_paidCount : Int32) (v_ways_purses_lower : Int64) (v_ways_purses_rest : Int64) (v_ways_purses_payers : Int32) (v_heaps_papers : Nat → Int32) (v_heaps_sets : Nat → Int32) (v_ways_order : Nat → Int32) (v_ways_purses_upper : Nat → Int64) : Option (Int64 × Int32 × Int32 × Int32 × Int64 × Int64 × Int32 × (Nat → Int32) × (Nat → Int64)) := (f_X10_refusalOfShare x1 x2 x3 v_heaps_count v_seatCount).bind (fun q1 => (if q1 = 0 then (f_X8_byPurses v_seatCount x2 v_heaps_count v_ways_purses_lower v_ways_purses_rest v_ways_purses_payers v_ways_count v_ways_chosen v_ways_paidCount v_heaps_papers v_heaps_sets v_ways_order v_ways_purses_upper).bind (fun q3 => (f_X1_lowest_X6 x1 x3 q3.1 q3.2.2.2.2.2.2.2).bind (fun q4 => some (q4, q3.2.2.2.1, q3.2.2.2.2.1, q3.2.2.2.2.2.1, q3.1, q3.2.1, q3.2.2.1, q3.2.2.2.2.2.2.1, q3.2.2.2.2.2.2.2))) else some (((-1000000000000000000 : Int64) + (q1).toInt64), v_ways_count, v_ways_chosen, v_ways_paidCount, v_ways_purses_lower, v_ways_purses_rest, v_ways_purses_payers, v_ways_order, v_ways_purses_upper)))
set_option maxHeartbeats 4000000 in
set_option maxRecDepth 100000 in
theorem c_X10_purse (l : Launch) (D : va_G) (cyI cyJ cyZ : ClassId) (a_heaps a_heaps_sets a_heaps_papers a_worths a_this a_trial a_text a_lines a_lawful a_groups a_ways a_ways_loads a_ways_purses a_ways_order a_ways_purses_upper : Nat) (v_heaps_count : Int32) (v_seatCount : Int32) (v_ways_count : Int32) (v_ways_chosen : Int32) (v_ways_paidCount : Int32) (v_ways_purses_lower : Int64) (v_ways_purses_rest : Int64) (v_ways_purses_payers : Int32) (v_heaps_papers : Nat → Int32) (v_heaps_sets : Nat → Int32) (v_ways_order : Nat → Int32) (v_ways_purses_upper : Nat → Int64) (x1 : Int32) (x2 : Int32) (x3 : Int32) (q : Int64 × Int32 × Int32 × Int32 × Int64 × Int64 × Int32 × (Nat → Int32) × (Nat → Int64)) (hf : f_X10_purse x1 x2 x3 v_heaps_count v_seatCount v_ways_count v_ways_chosen v_ways_paidCount v_ways_purses_lower v_ways_purses_rest v_ways_purses_payers v_heaps_papers v_heaps_sets v_ways_order v_ways_purses_upper = some q) : kMl l yX10_purse wsX10_purse rm_X10_purse D (kTy cyI cyJ cyZ) [.ref a_this, .int x1, .int x2, .int x3] (wd_X10_purse cyI cyJ cyZ a_heaps a_heaps_sets a_heaps_papers a_worths a_this a_trial a_text a_lines a_lawful a_groups a_ways a_ways_loads a_ways_purses a_ways_order a_ways_purses_upper v_heaps_count v_seatCount v_ways_count v_ways_chosen v_ways_paidCount v_ways_purses_lower v_ways_purses_rest v_ways_purses_payers v_heaps_papers v_heaps_sets v_ways_order v_ways_purses_upper) (wd_X10_purse cyI cyJ cyZ a_heaps a_heaps_sets a_heaps_papers a_worths a_this a_trial a_text a_lines a_lawful a_groups a_ways a_ways_loads a_ways_purses a_ways_order a_ways_purses_upper v_heaps_count v_seatCount q.2.1 q.2.2.1 q.2.2.2.1 q.2.2.2.2.1 q.2.2.2.2.2.1 q.2.2.2.2.2.2.1 v_heaps_papers v_heaps_sets q.2.2.2.2.2.2.2.1 q.2.2.2.2.2.2.2.2) q.1 := by
  refine kMl_of (cc := cX10_purse) (nL := 5) (own := RX10) (by decide) rfl rfl (Nat.le_of_ble_eq_true rfl) ?_
  intro p e s m below meth c A Q ls C hret hP hD hS hl
  have hl : lv_has ls 5 [(0, .ref a_this), (1, .int x1), (2, .int x2), (3, .int x3)] := hl
  unfold f_X10_purse at hf
  obtain ⟨hx, hb, hml, hown, hts, hK, hA⟩ := id C
  have iX10 : ∀ w ∈ u_ws RX10 TX10 9, w ∈ wsX10_purse := by decide +kernel
  have iX8 : ∀ w ∈ u_ws RX8 TX8 7, w ∈ wsX10_purse := by decide +kernel
  have fl21 := hts (.fieldLink RX10 21 "FairSeats" "heaps" "LFairSeats$Heaps;") (by decide +kernel)
  have fl61 := hts (.fieldLink RX10 61 "FairSeats" "ways" "LFairSeats$Ways;") (by decide +kernel)
  have fl65 := hts (.fieldLink RX10 65 "FairSeats" "seatCount" "I") (by decide +kernel)
  have fl170 := hts (.fieldLink RX10 170 "FairSeats$Ways" "purses" "LFairSeats$Purses;") (by decide +kernel)
  have cw146 := cwV (R := rm_X10_purse) (rm := rm_X10_refusalOfShare) 3 hts gX10_purse_X10_refusalOfShare rfl rfl rfl (by decide +kernel) ⟨Nat.le_of_ble_eq_true rfl, Nat.le_of_ble_eq_true rfl⟩
  have cw166 := cwV (R := rm_X10_purse) (rm := rm_X8_byPurses) 3 hts gX10_purse_X8_byPurses rfl rfl rfl (by decide +kernel) ⟨Nat.le_of_ble_eq_true rfl, Nat.le_of_ble_eq_true rfl⟩
  have cw174 := va_cwU (R := rm_X10_purse) (rm := rm_X1_lowest_X6) 2 hts gX10_purse_X1_lowest_u174X6 rfl rfl rfl rfl (by decide +kernel) ⟨Nat.le_of_ble_eq_true rfl, Nat.le_of_ble_eq_true rfl⟩
  refine lv_aload_n hx hb dX10_purse_0 rfl (lv_at hl 0 rfl) ?_
  refine lv_iload_n hx hb dX10_purse_1 rfl (lv_at hl 1 rfl) ?_
  refine lv_iload_n hx hb dX10_purse_2 rfl (lv_at hl 2 rfl) ?_
  refine lv_iload_n hx hb dX10_purse_3 rfl (lv_at hl 3 rfl) ?_
  obtain ⟨q1, hq1, hf⟩ := ob_bind hf
  refine k_Vi (wo := (wd_X10_purse cyI cyJ cyZ a_heaps a_heaps_sets a_heaps_papers a_worths a_this a_trial a_text a_lines a_lawful a_groups a_ways a_ways_loads a_ways_purses a_ways_order a_ways_purses_upper v_heaps_count v_seatCount v_ways_count v_ways_chosen v_ways_paidCount v_ways_purses_lower v_ways_purses_rest v_ways_purses_payers v_heaps_papers v_heaps_sets v_ways_order v_ways_purses_upper)) (As := [.int x1, .int x2, .int x3]) (rest := []) C (c_X10_refusalOfShare l D cyI cyJ cyZ a_heaps a_heaps_sets a_heaps_papers a_worths a_this a_trial a_text a_lines a_lawful a_groups a_ways v_heaps_count v_seatCount x1 x2 x3 q1 hq1) cw146 hP hD hS [0, 1] [2, 3, 4, 5, 6, 7] [6, 7, 0, 1, 2, 3, 4, 5] rfl rfl rfl (by decide) 1 (ci := 9) rfl rfl rfl rfl rfl hl.1 (Nat.le_of_ble_eq_true rfl) dX10_purse_4 ⟨Nat.zero_le _, Nat.zero_le _⟩ (fun H locs hP hD hS => ?_)
  refine lv_istore (lv' := [(4, .int q1), (0, .ref a_this), (1, .int x1), (2, .int x2), (3, .int x3)]) hx hb dX10_purse_7 hl (by decide) rfl (fun ls hl => ?_)
  refine lv_iload hx hb dX10_purse_9 (lv_at hl 0 rfl) ?_
  refine lv_if_eq (tgt := 22) hx hb dX10_purse_11 (by decide) (fun c2 => ?_) (fun c2 => ?_)
  · have hf := ob_pos c2 hf
    refine lv_aload_n hx hb dX10_purse_22 rfl (lv_at hl 1 rfl) ?_
    refine va_get (D := D) (ci := 9) (v := .ref a_ways) (C := RX10) (T := TX10) (N := 9) hx hb hts iX10 hown hK hP 1 rfl rfl 7 (by decide) fl61 (fun _ h9 => h9) rfl dX10_purse_23 ?_
    refine lv_aload_n hx hb dX10_purse_26 rfl (lv_at hl 1 rfl) ?_
    refine va_get (D := D) (ci := 9) (v := .ref a_heaps) (C := RX10) (T := TX10) (N := 9) hx hb hts iX10 hown hK hP 1 rfl rfl 1 (by decide) fl21 (fun _ h9 => h9) rfl dX10_purse_27 ?_
    refine lv_aload_n hx hb dX10_purse_30 rfl (lv_at hl 1 rfl) ?_
    refine va_get (D := D) (ci := 9) (v := .int v_seatCount) (C := RX10) (T := TX10) (N := 9) hx hb hts iX10 hown hK hP 1 rfl rfl 8 (by decide) fl65 (fun _ h9 => h9) rfl dX10_purse_31 ?_
    refine lv_iload_n hx hb dX10_purse_34 rfl (lv_at hl 3 rfl) ?_
    obtain ⟨q3, hq3, hf⟩ := ob_bind hf
    refine k_Vv (wo := (wd_X10_purse cyI cyJ cyZ a_heaps a_heaps_sets a_heaps_papers a_worths a_this a_trial a_text a_lines a_lawful a_groups a_ways a_ways_loads a_ways_purses a_ways_order a_ways_purses_upper v_heaps_count v_seatCount q3.2.2.2.1 q3.2.2.2.2.1 q3.2.2.2.2.2.1 q3.1 q3.2.1 q3.2.2.1 v_heaps_papers v_heaps_sets q3.2.2.2.2.2.2.1 q3.2.2.2.2.2.2.2)) (As := [.ref a_heaps, .int v_seatCount, .int x2]) (rest := []) C (c_X8_byPurses l D cyI cyJ cyZ a_heaps a_heaps_sets a_heaps_papers a_worths a_ways_purses a_ways_purses_upper a_ways a_ways_loads a_lawful a_ways_order v_heaps_count v_ways_purses_lower v_ways_purses_rest v_ways_purses_payers v_ways_count v_ways_chosen v_ways_paidCount v_heaps_papers v_heaps_sets v_ways_order v_ways_purses_upper v_seatCount x2 q3 hq3) cw166 hP hD hS [0, 3, 2, 4, 5, 6, 7] [1] [1, 0, 3, 2, 4, 5, 6, 7] rfl rfl rfl (by decide) 2 (ci := 7) rfl rfl rfl rfl rfl hl.1 (Nat.le_of_ble_eq_true rfl) dX10_purse_35 ⟨Nat.zero_le _, Nat.zero_le _⟩ (fun H locs hP hD hS => ?_)
    refine lv_aload_n hx hb dX10_purse_38 rfl (lv_at hl 1 rfl) ?_
    refine va_get (D := D) (ci := 9) (v := .ref a_ways) (C := RX10) (T := TX10) (N := 9) hx hb hts iX10 hown hK hP 1 rfl rfl 7 (by decide) fl61 (fun _ h9 => h9) rfl dX10_purse_39 ?_
    refine va_get (D := D) (ci := 7) (v := .ref a_ways_purses) (C := RX8) (T := TX8) (N := 7) hx hb hts iX8 hown hK hP 2 rfl rfl 1 (by decide) fl170 (fun _ h9 => h9) rfl dX10_purse_42 ?_
    refine lv_iload_n hx hb dX10_purse_45 rfl (lv_at hl 2 rfl) ?_
    refine lv_iload_n hx hb dX10_purse_46 rfl (lv_at hl 4 rfl) ?_
    obtain ⟨q4, hq4, hf⟩ := ob_bind hf
    refine k_Ul (wo := (wd_X10_purse cyI cyJ cyZ a_heaps a_heaps_sets a_heaps_papers a_worths a_this a_trial a_text a_lines a_lawful a_groups a_ways a_ways_loads a_ways_purses a_ways_order a_ways_purses_upper v_heaps_count v_seatCount q3.2.2.2.1 q3.2.2.2.2.1 q3.2.2.2.2.2.1 q3.1 q3.2.1 q3.2.2.1 v_heaps_papers v_heaps_sets q3.2.2.2.2.2.2.1 q3.2.2.2.2.2.2.2)) (As := [.int x1, .int x3]) (rest := []) C (c_X1_lowest_X6 l D cyI cyJ cyZ a_ways_purses a_ways_purses_upper q3.1 q3.2.1 q3.2.2.1 q3.2.2.2.2.2.2.2 x1 x3 q4 hq4) cw174 hP hD hS [3, 7] [0, 1, 2, 4, 5, 6] [0, 1, 2, 6, 3, 4, 5, 7] rfl rfl rfl (by decide) 0 (ci := 5) rfl rfl rfl rfl rfl hl.1 (Nat.le_of_ble_eq_true rfl) dX10_purse_47 ⟨Nat.zero_le _, Nat.zero_le _⟩ (fun H locs hP hD hS => ?_)
    obtain rfl := Option.some.inj hf
    exact hret _ _ _ _ dX10_purse_50 hP hD hS
  · have hf := ob_neg c2 hf
    refine lv_ldc2 (v := (-1000000000000000000)) hx hb hown (hts (.constantLong RX10 150 (-1000000000000000000)) (by decide +kernel)) dX10_purse_14 ?_
    refine lv_iload hx hb dX10_purse_17 (lv_at hl 0 rfl) ?_
    refine lv_i2l (v := (q1).toInt64) hx hb dX10_purse_19 rfl ?_
    refine lv_ladd hx hb dX10_purse_20 ?_
    obtain rfl := Option.some.inj hf
    exact hret _ _ _ _ dX10_purse_21 hP hD hS
abbrev rm_X10_paid : Room := { frames := 5, cells := 0, slots := 0, locals := 129 }
abbrev wd_X10_paid (cyI cyJ cyZ : ClassId) (a_heaps a_heaps_sets a_heaps_papers a_worths a_this a_trial a_text a_lines a_lawful a_groups a_ways a_ways_loads a_ways_purses a_ways_order a_ways_purses_upper : Nat) (v_heaps_count : Int32) (v_seatCount : Int32) (v_ways_count : Int32) (v_ways_chosen : Int32) (v_ways_paidCount : Int32) (v_ways_purses_lower : Int64) (v_ways_purses_rest : Int64) (v_ways_purses_payers : Int32) (v_heaps_papers : Nat → Int32) (v_heaps_sets : Nat → Int32) (v_ways_order : Nat → Int32) (v_ways_purses_upper : Nat → Int64) : va_W := [(a_heaps, .inr (2, [.ref a_heaps_sets, .ref a_heaps_papers, .ref a_worths, .int v_heaps_count])), (a_this, .inr (9, [.ref a_worths, .ref a_heaps, .ref a_trial, .ref a_text, .ref a_lines, .ref a_lawful, .ref a_groups, .ref a_ways, .int v_seatCount])), (a_ways, .inr (7, [.ref a_ways_loads, .ref a_ways_purses, .ref a_lawful, .ref a_ways_order, .int v_ways_count, .int v_ways_chosen, .int v_ways_paidCount])), (a_ways_purses, .inr (5, [.ref a_ways_purses_upper, .long v_ways_purses_lower, .long v_ways_purses_rest, .int v_ways_purses_payers])), (a_heaps_papers, .inl (cyI, 7, .inl v_heaps_papers)), (a_heaps_sets, .inl (cyI, 7, .inl v_heaps_sets)), (a_ways_order, .inl (cyI, 4, .inl v_ways_order)), (a_ways_purses_upper, .inl (cyJ, 7, .inr (.inl v_ways_purses_upper)))]
def f_X10_paid (v_heaps_count : Int32) (v_seatCount : Int32) (v_ways_count : Int32) (v_ways_chosen : Int32) (v_ways_paidCount : Int32) (v_ways_purses_lower : Int64) (v_ways_purses_rest : Int64) (v_ways_purses_payers : Int32) (v_heaps_papers : Nat → Int32) (v_heaps_sets : Nat → Int32) (v_ways_order : Nat → Int32) (v_ways_purses_upper : Nat → Int64) : Option (Int32 × Int32 × Int32 × Int32 × Int64 × Int64 × Int32 × (Nat → Int32) × (Nat → Int64)) := (f_X8_byPurses v_seatCount v_seatCount v_heaps_count v_ways_purses_lower v_ways_purses_rest v_ways_purses_payers v_ways_count v_ways_chosen v_ways_paidCount v_heaps_papers v_heaps_sets v_ways_order v_ways_purses_upper).bind (fun q1 => some (q1.2.2.2.2.2.1, q1.2.2.2.1, q1.2.2.2.2.1, q1.2.2.2.2.2.1, q1.1, q1.2.1, q1.2.2.1, q1.2.2.2.2.2.2.1, q1.2.2.2.2.2.2.2))
set_option maxHeartbeats 4000000 in
set_option maxRecDepth 100000 in
theorem c_X10_paid (l : Launch) (D : va_G) (cyI cyJ cyZ : ClassId) (a_heaps a_heaps_sets a_heaps_papers a_worths a_this a_trial a_text a_lines a_lawful a_groups a_ways a_ways_loads a_ways_purses a_ways_order a_ways_purses_upper : Nat) (v_heaps_count : Int32) (v_seatCount : Int32) (v_ways_count : Int32) (v_ways_chosen : Int32) (v_ways_paidCount : Int32) (v_ways_purses_lower : Int64) (v_ways_purses_rest : Int64) (v_ways_purses_payers : Int32) (v_heaps_papers : Nat → Int32) (v_heaps_sets : Nat → Int32) (v_ways_order : Nat → Int32) (v_ways_purses_upper : Nat → Int64) (q : Int32 × Int32 × Int32 × Int32 × Int64 × Int64 × Int32 × (Nat → Int32) × (Nat → Int64)) (hf : f_X10_paid v_heaps_count v_seatCount v_ways_count v_ways_chosen v_ways_paidCount v_ways_purses_lower v_ways_purses_rest v_ways_purses_payers v_heaps_papers v_heaps_sets v_ways_order v_ways_purses_upper = some q) : kMi l yX10_paid wsX10_paid rm_X10_paid D (kTy cyI cyJ cyZ) [.ref a_this] (wd_X10_paid cyI cyJ cyZ a_heaps a_heaps_sets a_heaps_papers a_worths a_this a_trial a_text a_lines a_lawful a_groups a_ways a_ways_loads a_ways_purses a_ways_order a_ways_purses_upper v_heaps_count v_seatCount v_ways_count v_ways_chosen v_ways_paidCount v_ways_purses_lower v_ways_purses_rest v_ways_purses_payers v_heaps_papers v_heaps_sets v_ways_order v_ways_purses_upper) (wd_X10_paid cyI cyJ cyZ a_heaps a_heaps_sets a_heaps_papers a_worths a_this a_trial a_text a_lines a_lawful a_groups a_ways a_ways_loads a_ways_purses a_ways_order a_ways_purses_upper v_heaps_count v_seatCount q.2.1 q.2.2.1 q.2.2.2.1 q.2.2.2.2.1 q.2.2.2.2.2.1 q.2.2.2.2.2.2.1 v_heaps_papers v_heaps_sets q.2.2.2.2.2.2.2.1 q.2.2.2.2.2.2.2.2) q.1 := by
  refine kMi_of (cc := cX10_paid) (nL := 1) (own := RX10) (by decide) rfl rfl (Nat.le_of_ble_eq_true rfl) ?_
  intro p e s m below meth c A Q ls C hret hP hD hS hl
  have hl : lv_has ls 1 [(0, .ref a_this)] := hl
  unfold f_X10_paid at hf
  obtain ⟨hx, hb, hml, hown, hts, hK, hA⟩ := id C
  have iX10 : ∀ w ∈ u_ws RX10 TX10 9, w ∈ wsX10_paid := by decide +kernel
  have iX8 : ∀ w ∈ u_ws RX8 TX8 7, w ∈ wsX10_paid := by decide +kernel
  have fl21 := hts (.fieldLink RX10 21 "FairSeats" "heaps" "LFairSeats$Heaps;") (by decide +kernel)
  have fl61 := hts (.fieldLink RX10 61 "FairSeats" "ways" "LFairSeats$Ways;") (by decide +kernel)
  have fl65 := hts (.fieldLink RX10 65 "FairSeats" "seatCount" "I") (by decide +kernel)
  have fl177 := hts (.fieldLink RX10 177 "FairSeats$Ways" "paidCount" "I") (by decide +kernel)
  have cw166 := cwV (R := rm_X10_paid) (rm := rm_X8_byPurses) 3 hts gX10_paid_X8_byPurses rfl rfl rfl (by decide +kernel) ⟨Nat.le_of_ble_eq_true rfl, Nat.le_of_ble_eq_true rfl⟩
  refine lv_aload_n hx hb dX10_paid_0 rfl (lv_at hl 0 rfl) ?_
  refine va_get (D := D) (ci := 9) (v := .ref a_ways) (C := RX10) (T := TX10) (N := 9) hx hb hts iX10 hown hK hP 1 rfl rfl 7 (by decide) fl61 (fun _ h9 => h9) rfl dX10_paid_1 ?_
  refine lv_aload_n hx hb dX10_paid_4 rfl (lv_at hl 0 rfl) ?_
  refine va_get (D := D) (ci := 9) (v := .ref a_heaps) (C := RX10) (T := TX10) (N := 9) hx hb hts iX10 hown hK hP 1 rfl rfl 1 (by decide) fl21 (fun _ h9 => h9) rfl dX10_paid_5 ?_
  refine lv_aload_n hx hb dX10_paid_8 rfl (lv_at hl 0 rfl) ?_
  refine va_get (D := D) (ci := 9) (v := .int v_seatCount) (C := RX10) (T := TX10) (N := 9) hx hb hts iX10 hown hK hP 1 rfl rfl 8 (by decide) fl65 (fun _ h9 => h9) rfl dX10_paid_9 ?_
  refine lv_aload_n hx hb dX10_paid_12 rfl (lv_at hl 0 rfl) ?_
  refine va_get (D := D) (ci := 9) (v := .int v_seatCount) (C := RX10) (T := TX10) (N := 9) hx hb hts iX10 hown hK hP 1 rfl rfl 8 (by decide) fl65 (fun _ h9 => h9) rfl dX10_paid_13 ?_
  obtain ⟨q1, hq1, hf⟩ := ob_bind hf
  refine k_Vv (wo := (wd_X10_paid cyI cyJ cyZ a_heaps a_heaps_sets a_heaps_papers a_worths a_this a_trial a_text a_lines a_lawful a_groups a_ways a_ways_loads a_ways_purses a_ways_order a_ways_purses_upper v_heaps_count v_seatCount q1.2.2.2.1 q1.2.2.2.2.1 q1.2.2.2.2.2.1 q1.1 q1.2.1 q1.2.2.1 v_heaps_papers v_heaps_sets q1.2.2.2.2.2.2.1 q1.2.2.2.2.2.2.2)) (As := [.ref a_heaps, .int v_seatCount, .int v_seatCount]) (rest := []) C (c_X8_byPurses l D cyI cyJ cyZ a_heaps a_heaps_sets a_heaps_papers a_worths a_ways_purses a_ways_purses_upper a_ways a_ways_loads a_lawful a_ways_order v_heaps_count v_ways_purses_lower v_ways_purses_rest v_ways_purses_payers v_ways_count v_ways_chosen v_ways_paidCount v_heaps_papers v_heaps_sets v_ways_order v_ways_purses_upper v_seatCount v_seatCount q1 hq1) cw166 hP hD hS [0, 3, 2, 4, 5, 6, 7] [1] [1, 0, 3, 2, 4, 5, 6, 7] rfl rfl rfl (by decide) 2 (ci := 7) rfl rfl rfl rfl rfl hl.1 (Nat.le_of_ble_eq_true rfl) dX10_paid_16 ⟨Nat.zero_le _, Nat.zero_le _⟩ (fun H locs hP hD hS => ?_)
  refine lv_aload_n hx hb dX10_paid_19 rfl (lv_at hl 0 rfl) ?_
  refine va_get (D := D) (ci := 9) (v := .ref a_ways) (C := RX10) (T := TX10) (N := 9) hx hb hts iX10 hown hK hP 1 rfl rfl 7 (by decide) fl61 (fun _ h9 => h9) rfl dX10_paid_20 ?_
  refine va_get (D := D) (ci := 7) (v := .int q1.2.2.2.2.2.1) (C := RX8) (T := TX8) (N := 7) hx hb hts iX8 hown hK hP 2 rfl rfl 6 (by decide) fl177 (fun _ h9 => h9) rfl dX10_paid_23 ?_
  obtain rfl := Option.some.inj hf
  exact hret _ _ _ _ dX10_paid_26 hP hD hS
