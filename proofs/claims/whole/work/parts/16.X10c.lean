abbrev rm_X10_told : Room := { frames := 1, cells := 0, slots := 0, locals := 22 }
abbrev wd_X10_told (cyI cyJ cyZ : ClassId) (a_heaps a_heaps_sets a_heaps_papers a_worths a_lines a_lines_sets a_lines_digits a_lines_fewer a_text a_text_signs a_this a_trial a_lawful a_groups a_ways a_worths_each a_worths_together : Nat) (v_heaps_count : Int32) (v_lines_count : Int32) (v_text_length : Int32) (v_seatCount : Int32) (v_heaps_papers : Nat → Int32) (v_heaps_sets : Nat → Int32) (v_worths_each : Nat → Int32) : va_W := [(a_heaps, .inr (2, [.ref a_heaps_sets, .ref a_heaps_papers, .ref a_worths, .int v_heaps_count])), (a_lines, .inr (3, [.ref a_lines_sets, .ref a_lines_digits, .ref a_lines_fewer, .int v_lines_count])), (a_text, .inr (6, [.ref a_text_signs, .int v_text_length])), (a_this, .inr (9, [.ref a_worths, .ref a_heaps, .ref a_trial, .ref a_text, .ref a_lines, .ref a_lawful, .ref a_groups, .ref a_ways, .int v_seatCount])), (a_worths, .inr (8, [.ref a_worths_each, .ref a_worths_together])), (a_heaps_papers, .inl (cyI, 7, .inl v_heaps_papers)), (a_heaps_sets, .inl (cyI, 7, .inl v_heaps_sets)), (a_worths_each, .inl (cyI, 4, .inl v_worths_each))]
def f_X10_told (x1 : Int32) (v_heaps_count : Int32) (v_lines_count : Int32) (v_text_length : Int32) (v_seatCount : Int32) (v_heaps_papers : Nat → Int32) (v_heaps_sets : Nat → Int32) (v_worths_each : Nat → Int32) : Option (Int32) := (if x1 < (10 : Int32) then (if x1 < (20 : Int32) then (if x1 < (30 : Int32) then (if x1 = 0 then some v_heaps_count else (if x1 = 1 then (f_X3_total v_heaps_count v_heaps_papers).bind (fun q9 => some q9) else (if x1 = 2 then some v_seatCount else (if x1 = 3 then some v_text_length else (if x1 = 4 then some v_lines_count else some (-2 : Int32)))))) else (if (36 : Int32) ≤ x1 then (if x1 = 0 then some v_heaps_count else (if x1 = 1 then (f_X3_total v_heaps_count v_heaps_papers).bind (fun q16 => some q16) else (if x1 = 2 then some v_seatCount else (if x1 = 3 then some v_text_length else (if x1 = 4 then some v_lines_count else some (-2 : Int32)))))) else (f_X10_isHeap (x1 - (30 : Int32)) v_heaps_count).bind (fun q17 => (if q17 = 0 then some (-6 : Int32) else (if ob_in (x1 - (30 : Int32)) 7 = true then some (v_heaps_sets (x1 - (30 : Int32)).toNatClampNeg) else none))))) else (if (26 : Int32) ≤ x1 then (if x1 < (30 : Int32) then (if x1 = 0 then some v_heaps_count else (if x1 = 1 then (f_X3_total v_heaps_count v_heaps_papers).bind (fun q27 => some q27) else (if x1 = 2 then some v_seatCount else (if x1 = 3 then some v_text_length else (if x1 = 4 then some v_lines_count else some (-2 : Int32)))))) else (if (36 : Int32) ≤ x1 then (if x1 = 0 then some v_heaps_count else (if x1 = 1 then (f_X3_total v_heaps_count v_heaps_papers).bind (fun q34 => some q34) else (if x1 = 2 then some v_seatCount else (if x1 = 3 then some v_text_length else (if x1 = 4 then some v_lines_count else some (-2 : Int32)))))) else (f_X10_isHeap (x1 - (30 : Int32)) v_heaps_count).bind (fun q35 => (if q35 = 0 then some (-6 : Int32) else (if ob_in (x1 - (30 : Int32)) 7 = true then some (v_heaps_sets (x1 - (30 : Int32)).toNatClampNeg) else none))))) else (f_X10_isHeap (x1 - (20 : Int32)) v_heaps_count).bind (fun q38 => (if q38 = 0 then some (-6 : Int32) else (if ob_in (x1 - (20 : Int32)) 7 = true then some (v_heaps_papers (x1 - (20 : Int32)).toNatClampNeg) else none))))) else (if (14 : Int32) ≤ x1 then (if x1 < (20 : Int32) then (if x1 < (30 : Int32) then (if x1 = 0 then some v_heaps_count else (if x1 = 1 then (f_X3_total v_heaps_count v_heaps_papers).bind (fun q49 => some q49) else (if x1 = 2 then some v_seatCount else (if x1 = 3 then some v_text_length else (if x1 = 4 then some v_lines_count else some (-2 : Int32)))))) else (if (36 : Int32) ≤ x1 then (if x1 = 0 then some v_heaps_count else (if x1 = 1 then (f_X3_total v_heaps_count v_heaps_papers).bind (fun q56 => some q56) else (if x1 = 2 then some v_seatCount else (if x1 = 3 then some v_text_length else (if x1 = 4 then some v_lines_count else some (-2 : Int32)))))) else (f_X10_isHeap (x1 - (30 : Int32)) v_heaps_count).bind (fun q57 => (if q57 = 0 then some (-6 : Int32) else (if ob_in (x1 - (30 : Int32)) 7 = true then some (v_heaps_sets (x1 - (30 : Int32)).toNatClampNeg) else none))))) else (if (26 : Int32) ≤ x1 then (if x1 < (30 : Int32) then (if x1 = 0 then some v_heaps_count else (if x1 = 1 then (f_X3_total v_heaps_count v_heaps_papers).bind (fun q67 => some q67) else (if x1 = 2 then some v_seatCount else (if x1 = 3 then some v_text_length else (if x1 = 4 then some v_lines_count else some (-2 : Int32)))))) else (if (36 : Int32) ≤ x1 then (if x1 = 0 then some v_heaps_count else (if x1 = 1 then (f_X3_total v_heaps_count v_heaps_papers).bind (fun q74 => some q74) else (if x1 = 2 then some v_seatCount else (if x1 = 3 then some v_text_length else (if x1 = 4 then some v_lines_count else some (-2 : Int32)))))) else (f_X10_isHeap (x1 - (30 : Int32)) v_heaps_count).bind (fun q75 => (if q75 = 0 then some (-6 : Int32) else (if ob_in (x1 - (30 : Int32)) 7 = true then some (v_heaps_sets (x1 - (30 : Int32)).toNatClampNeg) else none))))) else (f_X10_isHeap (x1 - (20 : Int32)) v_heaps_count).bind (fun q78 => (if q78 = 0 then some (-6 : Int32) else (if ob_in (x1 - (20 : Int32)) 7 = true then some (v_heaps_papers (x1 - (20 : Int32)).toNatClampNeg) else none))))) else (if ob_in (x1 - (10 : Int32)) 4 = true then some (v_worths_each (x1 - (10 : Int32)).toNatClampNeg) else none)))
set_option maxHeartbeats 4000000 in
set_option maxRecDepth 100000 in
theorem c_X10_told (l : Launch) (D : va_G) (cyI cyJ cyZ : ClassId) (a_heaps a_heaps_sets a_heaps_papers a_worths a_lines a_lines_sets a_lines_digits a_lines_fewer a_text a_text_signs a_this a_trial a_lawful a_groups a_ways a_worths_each a_worths_together : Nat) (v_heaps_count : Int32) (v_lines_count : Int32) (v_text_length : Int32) (v_seatCount : Int32) (v_heaps_papers : Nat → Int32) (v_heaps_sets : Nat → Int32) (v_worths_each : Nat → Int32) (x1 : Int32) (q : Int32) (hf : f_X10_told x1 v_heaps_count v_lines_count v_text_length v_seatCount v_heaps_papers v_heaps_sets v_worths_each = some q) : kMi l yX10_told wsX10_told rm_X10_told D (kTy cyI cyJ cyZ) [.ref a_this, .int x1] (wd_X10_told cyI cyJ cyZ a_heaps a_heaps_sets a_heaps_papers a_worths a_lines a_lines_sets a_lines_digits a_lines_fewer a_text a_text_signs a_this a_trial a_lawful a_groups a_ways a_worths_each a_worths_together v_heaps_count v_lines_count v_text_length v_seatCount v_heaps_papers v_heaps_sets v_worths_each) (wd_X10_told cyI cyJ cyZ a_heaps a_heaps_sets a_heaps_papers a_worths a_lines a_lines_sets a_lines_digits a_lines_fewer a_text a_text_signs a_this a_trial a_lawful a_groups a_ways a_worths_each a_worths_together v_heaps_count v_lines_count v_text_length v_seatCount v_heaps_papers v_heaps_sets v_worths_each) q := by
  refine kMi_of (cc := cX10_told) (nL := 2) (own := RX10) (by decide) rfl rfl (Nat.le_of_ble_eq_true rfl) ?_
  intro p e s m below meth c A Q ls C hret hP hD hS hl
  have hl : lv_has ls 2 [(0, .ref a_this), (1, .int x1)] := hl
  unfold f_X10_told at hf
  obtain ⟨hx, hb, hml, hown, hts, hK, hA⟩ := id C
  have iX10 : ∀ w ∈ u_ws RX10 TX10 9, w ∈ wsX10_told := by decide +kernel
  have iX3 : ∀ w ∈ u_ws RX3 TX3 4, w ∈ wsX10_told := by decide +kernel
  have iX4 : ∀ w ∈ u_ws RX4 TX4 4, w ∈ wsX10_told := by decide +kernel
  have iX7 : ∀ w ∈ u_ws RX7 TX7 2, w ∈ wsX10_told := by decide +kernel
  have iX9 : ∀ w ∈ u_ws RX9 TX9 2, w ∈ wsX10_told := by decide +kernel
  have fl10 := hts (.fieldLink RX10 10 "FairSeats" "worths" "LFairSeats$Worths;") (by decide +kernel)
  have fl21 := hts (.fieldLink RX10 21 "FairSeats" "heaps" "LFairSeats$Heaps;") (by decide +kernel)
  have fl31 := hts (.fieldLink RX10 31 "FairSeats" "text" "LFairSeats$Text;") (by decide +kernel)
  have fl38 := hts (.fieldLink RX10 38 "FairSeats" "lines" "LFairSeats$Lines;") (by decide +kernel)
  have fl65 := hts (.fieldLink RX10 65 "FairSeats" "seatCount" "I") (by decide +kernel)
  have fl76 := hts (.fieldLink RX10 76 "FairSeats$Heaps" "count" "I") (by decide +kernel)
  have fl86 := hts (.fieldLink RX10 86 "FairSeats$Heaps" "sets" "[I") (by decide +kernel)
  have fl90 := hts (.fieldLink RX10 90 "FairSeats$Heaps" "papers" "[I") (by decide +kernel)
  have fl97 := hts (.fieldLink RX10 97 "FairSeats$Worths" "each" "[I") (by decide +kernel)
  have fl103 := hts (.fieldLink RX10 103 "FairSeats$Text" "length" "I") (by decide +kernel)
  have fl117 := hts (.fieldLink RX10 117 "FairSeats$Lines" "count" "I") (by decide +kernel)
  have cw83 := cwV (R := rm_X10_told) (rm := rm_X10_isHeap) 1 hts gX10_told_X10_isHeap rfl rfl rfl (by decide +kernel) ⟨Nat.le_of_ble_eq_true rfl, Nat.le_of_ble_eq_true rfl⟩
  have cw229 := cwV (R := rm_X10_told) (rm := rm_X3_total) 0 hts gX10_told_X3_total rfl rfl rfl (by decide +kernel) ⟨Nat.le_of_ble_eq_true rfl, Nat.le_of_ble_eq_true rfl⟩
  refine lv_iload_n hx hb dX10_told_0 rfl (lv_at hl 1 rfl) ?_
  refine lv_bipush (v := (10 : Int32)) hx hb dX10_told_1 (by decide) ?_
  refine lv_icmp_lt (tgt := 25) hx hb dX10_told_3 (by decide) (fun c1 => ?_) (fun c1 => ?_)
  · have hf := ob_pos c1 hf
    refine lv_iload_n hx hb dX10_told_25 rfl (lv_at hl 1 rfl) ?_
    refine lv_bipush (v := (20 : Int32)) hx hb dX10_told_26 (by decide) ?_
    refine lv_icmp_lt (tgt := 66) hx hb dX10_told_28 (by decide) (fun c2 => ?_) (fun c2 => ?_)
    · have hf := ob_pos c2 hf
      refine lv_iload_n hx hb dX10_told_66 rfl (lv_at hl 1 rfl) ?_
      refine lv_bipush (v := (30 : Int32)) hx hb dX10_told_67 (by decide) ?_
      refine lv_icmp_lt (tgt := 107) hx hb dX10_told_69 (by decide) (fun c3 => ?_) (fun c3 => ?_)
      · have hf := ob_pos c3 hf
        refine lv_iload_n hx hb dX10_told_107 rfl (lv_at hl 1 rfl) ?_
        by_cases c4 : x1 = 0
        · have hf := ob_pos c4 hf
          refine lv_tableIn (off := 36) (tgt := 144) hx hb dX10_told_108 (by rw [c4]; decide) (by rw [c4]; decide) (by rw [c4]; rfl) (by decide) ?_
          refine lv_aload_n hx hb dX10_told_144 rfl (lv_at hl 0 rfl) ?_
          refine va_get (D := D) (ci := 9) (v := .ref a_heaps) (C := RX10) (T := TX10) (N := 9) hx hb hts iX10 hown hK hP 3 rfl rfl 1 (by decide) fl21 (fun _ h9 => h9) rfl dX10_told_145 ?_
          refine va_get (D := D) (ci := 2) (v := .int v_heaps_count) (C := RX3) (T := TX3) (N := 4) hx hb hts iX3 hown hK hP 0 rfl rfl 3 (by decide) fl76 (fun _ h9 => h9) rfl dX10_told_148 ?_
          obtain rfl := Option.some.inj hf
          exact hret _ _ _ _ dX10_told_151 hP hD hS
        · have hf := ob_neg c4 hf
          by_cases c5 : x1 = 1
          · have hf := ob_pos c5 hf
            refine lv_tableIn (off := 44) (tgt := 152) hx hb dX10_told_108 (by rw [c5]; decide) (by rw [c5]; decide) (by rw [c5]; rfl) (by decide) ?_
            refine lv_aload_n hx hb dX10_told_152 rfl (lv_at hl 0 rfl) ?_
            refine va_get (D := D) (ci := 9) (v := .ref a_heaps) (C := RX10) (T := TX10) (N := 9) hx hb hts iX10 hown hK hP 3 rfl rfl 1 (by decide) fl21 (fun _ h9 => h9) rfl dX10_told_153 ?_
            obtain ⟨q9, hq9, hf⟩ := ob_bind hf
            refine k_Vi (wo := (wd_X10_told cyI cyJ cyZ a_heaps a_heaps_sets a_heaps_papers a_worths a_lines a_lines_sets a_lines_digits a_lines_fewer a_text a_text_signs a_this a_trial a_lawful a_groups a_ways a_worths_each a_worths_together v_heaps_count v_lines_count v_text_length v_seatCount v_heaps_papers v_heaps_sets v_worths_each)) (As := []) (rest := []) C (c_X3_total l D cyI cyJ cyZ a_heaps a_heaps_sets a_heaps_papers a_worths v_heaps_count v_heaps_papers  q9 hq9) cw229 hP hD hS [0, 5] [1, 2, 3, 4, 6, 7] [6, 0, 1, 2, 3, 7, 4, 5] rfl rfl rfl (by decide) 0 (ci := 2) rfl rfl rfl rfl rfl hl.1 (Nat.le_of_ble_eq_true rfl) dX10_told_156 ⟨Nat.zero_le _, Nat.zero_le _⟩ (fun H locs hP hD hS => ?_)
            obtain rfl := Option.some.inj hf
            exact hret _ _ _ _ dX10_told_159 hP hD hS
          · have hf := ob_neg c5 hf
            by_cases c6 : x1 = 2
            · have hf := ob_pos c6 hf
              refine lv_tableIn (off := 52) (tgt := 160) hx hb dX10_told_108 (by rw [c6]; decide) (by rw [c6]; decide) (by rw [c6]; rfl) (by decide) ?_
              refine lv_aload_n hx hb dX10_told_160 rfl (lv_at hl 0 rfl) ?_
              refine va_get (D := D) (ci := 9) (v := .int v_seatCount) (C := RX10) (T := TX10) (N := 9) hx hb hts iX10 hown hK hP 3 rfl rfl 8 (by decide) fl65 (fun _ h9 => h9) rfl dX10_told_161 ?_
              obtain rfl := Option.some.inj hf
              exact hret _ _ _ _ dX10_told_164 hP hD hS
            · have hf := ob_neg c6 hf
              by_cases c7 : x1 = 3
              · have hf := ob_pos c7 hf
                refine lv_tableIn (off := 57) (tgt := 165) hx hb dX10_told_108 (by rw [c7]; decide) (by rw [c7]; decide) (by rw [c7]; rfl) (by decide) ?_
                refine lv_aload_n hx hb dX10_told_165 rfl (lv_at hl 0 rfl) ?_
                refine va_get (D := D) (ci := 9) (v := .ref a_text) (C := RX10) (T := TX10) (N := 9) hx hb hts iX10 hown hK hP 3 rfl rfl 3 (by decide) fl31 (fun _ h9 => h9) rfl dX10_told_166 ?_
                refine va_get (D := D) (ci := 6) (v := .int v_text_length) (C := RX7) (T := TX7) (N := 2) hx hb hts iX7 hown hK hP 2 rfl rfl 1 (by decide) fl103 (fun _ h9 => h9) rfl dX10_told_169 ?_
                obtain rfl := Option.some.inj hf
                exact hret _ _ _ _ dX10_told_172 hP hD hS
              · have hf := ob_neg c7 hf
                by_cases c8 : x1 = 4
                · have hf := ob_pos c8 hf
                  refine lv_tableIn (off := 65) (tgt := 173) hx hb dX10_told_108 (by rw [c8]; decide) (by rw [c8]; decide) (by rw [c8]; rfl) (by decide) ?_
                  refine lv_aload_n hx hb dX10_told_173 rfl (lv_at hl 0 rfl) ?_
                  refine va_get (D := D) (ci := 9) (v := .ref a_lines) (C := RX10) (T := TX10) (N := 9) hx hb hts iX10 hown hK hP 3 rfl rfl 4 (by decide) fl38 (fun _ h9 => h9) rfl dX10_told_174 ?_
                  refine va_get (D := D) (ci := 3) (v := .int v_lines_count) (C := RX4) (T := TX4) (N := 4) hx hb hts iX4 hown hK hP 1 rfl rfl 3 (by decide) fl117 (fun _ h9 => h9) rfl dX10_told_177 ?_
                  obtain rfl := Option.some.inj hf
                  exact hret _ _ _ _ dX10_told_180 hP hD hS
                · have hf := ob_neg c8 hf
                  refine lv_tableOut (tgt := 181) hx hb dX10_told_108 (by have nc4 := lv_neT (a := 0) c4 (by decide); have nc5 := lv_neT (a := 1) c5 (by decide); have nc6 := lv_neT (a := 2) c6 (by decide); have nc7 := lv_neT (a := 3) c7 (by decide); have nc8 := lv_neT (a := 4) c8 (by decide); omega) (by decide) ?_
                  refine lv_bipush (v := (-2 : Int32)) hx hb dX10_told_181 (by decide) ?_
                  obtain rfl := Option.some.inj hf
                  exact hret _ _ _ _ dX10_told_183 hP hD hS
      · have hf := ob_neg c3 hf
        refine lv_iload_n hx hb dX10_told_72 rfl (lv_at hl 1 rfl) ?_
        refine lv_bipush (v := (36 : Int32)) hx hb dX10_told_73 (by decide) ?_
        refine lv_icmp_ge (tgt := 107) hx hb dX10_told_75 (by decide) (fun c10 => ?_) (fun c10 => ?_)
        · have hf := ob_pos c10 hf
          refine lv_iload_n hx hb dX10_told_107 rfl (lv_at hl 1 rfl) ?_
          by_cases c11 : x1 = 0
          · have hf := ob_pos c11 hf
            refine lv_tableIn (off := 36) (tgt := 144) hx hb dX10_told_108 (by rw [c11]; decide) (by rw [c11]; decide) (by rw [c11]; rfl) (by decide) ?_
            refine lv_aload_n hx hb dX10_told_144 rfl (lv_at hl 0 rfl) ?_
            refine va_get (D := D) (ci := 9) (v := .ref a_heaps) (C := RX10) (T := TX10) (N := 9) hx hb hts iX10 hown hK hP 3 rfl rfl 1 (by decide) fl21 (fun _ h9 => h9) rfl dX10_told_145 ?_
            refine va_get (D := D) (ci := 2) (v := .int v_heaps_count) (C := RX3) (T := TX3) (N := 4) hx hb hts iX3 hown hK hP 0 rfl rfl 3 (by decide) fl76 (fun _ h9 => h9) rfl dX10_told_148 ?_
            obtain rfl := Option.some.inj hf
            exact hret _ _ _ _ dX10_told_151 hP hD hS
          · have hf := ob_neg c11 hf
            by_cases c12 : x1 = 1
            · have hf := ob_pos c12 hf
              refine lv_tableIn (off := 44) (tgt := 152) hx hb dX10_told_108 (by rw [c12]; decide) (by rw [c12]; decide) (by rw [c12]; rfl) (by decide) ?_
              refine lv_aload_n hx hb dX10_told_152 rfl (lv_at hl 0 rfl) ?_
              refine va_get (D := D) (ci := 9) (v := .ref a_heaps) (C := RX10) (T := TX10) (N := 9) hx hb hts iX10 hown hK hP 3 rfl rfl 1 (by decide) fl21 (fun _ h9 => h9) rfl dX10_told_153 ?_
              obtain ⟨q16, hq16, hf⟩ := ob_bind hf
              refine k_Vi (wo := (wd_X10_told cyI cyJ cyZ a_heaps a_heaps_sets a_heaps_papers a_worths a_lines a_lines_sets a_lines_digits a_lines_fewer a_text a_text_signs a_this a_trial a_lawful a_groups a_ways a_worths_each a_worths_together v_heaps_count v_lines_count v_text_length v_seatCount v_heaps_papers v_heaps_sets v_worths_each)) (As := []) (rest := []) C (c_X3_total l D cyI cyJ cyZ a_heaps a_heaps_sets a_heaps_papers a_worths v_heaps_count v_heaps_papers  q16 hq16) cw229 hP hD hS [0, 5] [1, 2, 3, 4, 6, 7] [6, 0, 1, 2, 3, 7, 4, 5] rfl rfl rfl (by decide) 0 (ci := 2) rfl rfl rfl rfl rfl hl.1 (Nat.le_of_ble_eq_true rfl) dX10_told_156 ⟨Nat.zero_le _, Nat.zero_le _⟩ (fun H locs hP hD hS => ?_)
              obtain rfl := Option.some.inj hf
              exact hret _ _ _ _ dX10_told_159 hP hD hS
            · have hf := ob_neg c12 hf
              by_cases c13 : x1 = 2
              · have hf := ob_pos c13 hf
                refine lv_tableIn (off := 52) (tgt := 160) hx hb dX10_told_108 (by rw [c13]; decide) (by rw [c13]; decide) (by rw [c13]; rfl) (by decide) ?_
                refine lv_aload_n hx hb dX10_told_160 rfl (lv_at hl 0 rfl) ?_
                refine va_get (D := D) (ci := 9) (v := .int v_seatCount) (C := RX10) (T := TX10) (N := 9) hx hb hts iX10 hown hK hP 3 rfl rfl 8 (by decide) fl65 (fun _ h9 => h9) rfl dX10_told_161 ?_
                obtain rfl := Option.some.inj hf
                exact hret _ _ _ _ dX10_told_164 hP hD hS
              · have hf := ob_neg c13 hf
                by_cases c14 : x1 = 3
                · have hf := ob_pos c14 hf
                  refine lv_tableIn (off := 57) (tgt := 165) hx hb dX10_told_108 (by rw [c14]; decide) (by rw [c14]; decide) (by rw [c14]; rfl) (by decide) ?_
                  refine lv_aload_n hx hb dX10_told_165 rfl (lv_at hl 0 rfl) ?_
                  refine va_get (D := D) (ci := 9) (v := .ref a_text) (C := RX10) (T := TX10) (N := 9) hx hb hts iX10 hown hK hP 3 rfl rfl 3 (by decide) fl31 (fun _ h9 => h9) rfl dX10_told_166 ?_
                  refine va_get (D := D) (ci := 6) (v := .int v_text_length) (C := RX7) (T := TX7) (N := 2) hx hb hts iX7 hown hK hP 2 rfl rfl 1 (by decide) fl103 (fun _ h9 => h9) rfl dX10_told_169 ?_
                  obtain rfl := Option.some.inj hf
                  exact hret _ _ _ _ dX10_told_172 hP hD hS
                · have hf := ob_neg c14 hf
                  by_cases c15 : x1 = 4
                  · have hf := ob_pos c15 hf
                    refine lv_tableIn (off := 65) (tgt := 173) hx hb dX10_told_108 (by rw [c15]; decide) (by rw [c15]; decide) (by rw [c15]; rfl) (by decide) ?_
                    refine lv_aload_n hx hb dX10_told_173 rfl (lv_at hl 0 rfl) ?_
                    refine va_get (D := D) (ci := 9) (v := .ref a_lines) (C := RX10) (T := TX10) (N := 9) hx hb hts iX10 hown hK hP 3 rfl rfl 4 (by decide) fl38 (fun _ h9 => h9) rfl dX10_told_174 ?_
                    refine va_get (D := D) (ci := 3) (v := .int v_lines_count) (C := RX4) (T := TX4) (N := 4) hx hb hts iX4 hown hK hP 1 rfl rfl 3 (by decide) fl117 (fun _ h9 => h9) rfl dX10_told_177 ?_
                    obtain rfl := Option.some.inj hf
                    exact hret _ _ _ _ dX10_told_180 hP hD hS
                  · have hf := ob_neg c15 hf
                    refine lv_tableOut (tgt := 181) hx hb dX10_told_108 (by have nc11 := lv_neT (a := 0) c11 (by decide); have nc12 := lv_neT (a := 1) c12 (by decide); have nc13 := lv_neT (a := 2) c13 (by decide); have nc14 := lv_neT (a := 3) c14 (by decide); have nc15 := lv_neT (a := 4) c15 (by decide); omega) (by decide) ?_
                    refine lv_bipush (v := (-2 : Int32)) hx hb dX10_told_181 (by decide) ?_
                    obtain rfl := Option.some.inj hf
                    exact hret _ _ _ _ dX10_told_183 hP hD hS
        · have hf := ob_neg c10 hf
          refine lv_aload_n hx hb dX10_told_78 rfl (lv_at hl 0 rfl) ?_
          refine lv_iload_n hx hb dX10_told_79 rfl (lv_at hl 1 rfl) ?_
          refine lv_bipush (v := (30 : Int32)) hx hb dX10_told_80 (by decide) ?_
          refine lv_isub hx hb dX10_told_82 ?_
          obtain ⟨q17, hq17, hf⟩ := ob_bind hf
          refine k_Vz (wo := (wd_X10_told cyI cyJ cyZ a_heaps a_heaps_sets a_heaps_papers a_worths a_lines a_lines_sets a_lines_digits a_lines_fewer a_text a_text_signs a_this a_trial a_lawful a_groups a_ways a_worths_each a_worths_together v_heaps_count v_lines_count v_text_length v_seatCount v_heaps_papers v_heaps_sets v_worths_each)) (As := [.int (x1 - (30 : Int32))]) (rest := []) C (c_X10_isHeap l D cyI cyJ cyZ a_heaps a_heaps_sets a_heaps_papers a_worths a_this a_trial a_text a_lines a_lawful a_groups a_ways v_heaps_count v_seatCount (x1 - (30 : Int32)) q17 hq17) cw83 hP hD hS [0, 3] [1, 2, 4, 5, 6, 7] [6, 0, 1, 7, 2, 3, 4, 5] rfl rfl rfl (by decide) 1 (ci := 9) rfl rfl rfl rfl rfl hl.1 (Nat.le_of_ble_eq_true rfl) dX10_told_83 ⟨Nat.zero_le _, Nat.zero_le _⟩ (fun H locs zq17 hP hD hS => ?_)
          refine lv_if_eq (tgt := 104) hx hb dX10_told_86 (by decide) (fun c18 => ?_) (fun c18 => ?_)
          · have hf := ob_pos c18 hf
            refine lv_bipush (v := (-6 : Int32)) hx hb dX10_told_104 (by decide) ?_
            obtain rfl := Option.some.inj hf
            exact hret _ _ _ _ dX10_told_106 hP hD hS
          · have hf := ob_neg c18 hf
            refine lv_aload_n hx hb dX10_told_89 rfl (lv_at hl 0 rfl) ?_
            refine va_get (D := D) (ci := 9) (v := .ref a_heaps) (C := RX10) (T := TX10) (N := 9) hx hb hts iX10 hown hK hP 3 rfl rfl 1 (by decide) fl21 (fun _ h9 => h9) rfl dX10_told_90 ?_
            refine va_get (D := D) (ci := 2) (v := .ref a_heaps_sets) (C := RX3) (T := TX3) (N := 4) hx hb hts iX3 hown hK hP 0 rfl rfl 0 (by decide) fl86 (fun _ h9 => h9) rfl dX10_told_93 ?_
            refine lv_iload_n hx hb dX10_told_96 rfl (lv_at hl 1 rfl) ?_
            refine lv_bipush (v := (30 : Int32)) hx hb dX10_told_97 (by decide) ?_
            refine lv_isub hx hb dX10_told_99 ?_
            obtain ⟨h19, hf⟩ := og_in hf
            refine va_iald hx hb hK hP 6 0 rfl rfl h19 dX10_told_100 ?_
            refine lv_goto (tgt := 106) hx hb dX10_told_101 (by decide) ?_
            obtain rfl := Option.some.inj hf
            exact hret _ _ _ _ dX10_told_106 hP hD hS
    · have hf := ob_neg c2 hf
      refine lv_iload_n hx hb dX10_told_31 rfl (lv_at hl 1 rfl) ?_
      refine lv_bipush (v := (26 : Int32)) hx hb dX10_told_32 (by decide) ?_
      refine lv_icmp_ge (tgt := 66) hx hb dX10_told_34 (by decide) (fun c20 => ?_) (fun c20 => ?_)
      · have hf := ob_pos c20 hf
        refine lv_iload_n hx hb dX10_told_66 rfl (lv_at hl 1 rfl) ?_
        refine lv_bipush (v := (30 : Int32)) hx hb dX10_told_67 (by decide) ?_
        refine lv_icmp_lt (tgt := 107) hx hb dX10_told_69 (by decide) (fun c21 => ?_) (fun c21 => ?_)
        · have hf := ob_pos c21 hf
          refine lv_iload_n hx hb dX10_told_107 rfl (lv_at hl 1 rfl) ?_
          by_cases c22 : x1 = 0
          · have hf := ob_pos c22 hf
            refine lv_tableIn (off := 36) (tgt := 144) hx hb dX10_told_108 (by rw [c22]; decide) (by rw [c22]; decide) (by rw [c22]; rfl) (by decide) ?_
            refine lv_aload_n hx hb dX10_told_144 rfl (lv_at hl 0 rfl) ?_
            refine va_get (D := D) (ci := 9) (v := .ref a_heaps) (C := RX10) (T := TX10) (N := 9) hx hb hts iX10 hown hK hP 3 rfl rfl 1 (by decide) fl21 (fun _ h9 => h9) rfl dX10_told_145 ?_
            refine va_get (D := D) (ci := 2) (v := .int v_heaps_count) (C := RX3) (T := TX3) (N := 4) hx hb hts iX3 hown hK hP 0 rfl rfl 3 (by decide) fl76 (fun _ h9 => h9) rfl dX10_told_148 ?_
            obtain rfl := Option.some.inj hf
            exact hret _ _ _ _ dX10_told_151 hP hD hS
          · have hf := ob_neg c22 hf
            by_cases c23 : x1 = 1
            · have hf := ob_pos c23 hf
              refine lv_tableIn (off := 44) (tgt := 152) hx hb dX10_told_108 (by rw [c23]; decide) (by rw [c23]; decide) (by rw [c23]; rfl) (by decide) ?_
              refine lv_aload_n hx hb dX10_told_152 rfl (lv_at hl 0 rfl) ?_
              refine va_get (D := D) (ci := 9) (v := .ref a_heaps) (C := RX10) (T := TX10) (N := 9) hx hb hts iX10 hown hK hP 3 rfl rfl 1 (by decide) fl21 (fun _ h9 => h9) rfl dX10_told_153 ?_
              obtain ⟨q27, hq27, hf⟩ := ob_bind hf
              refine k_Vi (wo := (wd_X10_told cyI cyJ cyZ a_heaps a_heaps_sets a_heaps_papers a_worths a_lines a_lines_sets a_lines_digits a_lines_fewer a_text a_text_signs a_this a_trial a_lawful a_groups a_ways a_worths_each a_worths_together v_heaps_count v_lines_count v_text_length v_seatCount v_heaps_papers v_heaps_sets v_worths_each)) (As := []) (rest := []) C (c_X3_total l D cyI cyJ cyZ a_heaps a_heaps_sets a_heaps_papers a_worths v_heaps_count v_heaps_papers  q27 hq27) cw229 hP hD hS [0, 5] [1, 2, 3, 4, 6, 7] [6, 0, 1, 2, 3, 7, 4, 5] rfl rfl rfl (by decide) 0 (ci := 2) rfl rfl rfl rfl rfl hl.1 (Nat.le_of_ble_eq_true rfl) dX10_told_156 ⟨Nat.zero_le _, Nat.zero_le _⟩ (fun H locs hP hD hS => ?_)
              obtain rfl := Option.some.inj hf
              exact hret _ _ _ _ dX10_told_159 hP hD hS
            · have hf := ob_neg c23 hf
              by_cases c24 : x1 = 2
              · have hf := ob_pos c24 hf
                refine lv_tableIn (off := 52) (tgt := 160) hx hb dX10_told_108 (by rw [c24]; decide) (by rw [c24]; decide) (by rw [c24]; rfl) (by decide) ?_
                refine lv_aload_n hx hb dX10_told_160 rfl (lv_at hl 0 rfl) ?_
                refine va_get (D := D) (ci := 9) (v := .int v_seatCount) (C := RX10) (T := TX10) (N := 9) hx hb hts iX10 hown hK hP 3 rfl rfl 8 (by decide) fl65 (fun _ h9 => h9) rfl dX10_told_161 ?_
                obtain rfl := Option.some.inj hf
                exact hret _ _ _ _ dX10_told_164 hP hD hS
              · have hf := ob_neg c24 hf
                by_cases c25 : x1 = 3
                · have hf := ob_pos c25 hf
                  refine lv_tableIn (off := 57) (tgt := 165) hx hb dX10_told_108 (by rw [c25]; decide) (by rw [c25]; decide) (by rw [c25]; rfl) (by decide) ?_
                  refine lv_aload_n hx hb dX10_told_165 rfl (lv_at hl 0 rfl) ?_
                  refine va_get (D := D) (ci := 9) (v := .ref a_text) (C := RX10) (T := TX10) (N := 9) hx hb hts iX10 hown hK hP 3 rfl rfl 3 (by decide) fl31 (fun _ h9 => h9) rfl dX10_told_166 ?_
                  refine va_get (D := D) (ci := 6) (v := .int v_text_length) (C := RX7) (T := TX7) (N := 2) hx hb hts iX7 hown hK hP 2 rfl rfl 1 (by decide) fl103 (fun _ h9 => h9) rfl dX10_told_169 ?_
                  obtain rfl := Option.some.inj hf
                  exact hret _ _ _ _ dX10_told_172 hP hD hS
                · have hf := ob_neg c25 hf
                  by_cases c26 : x1 = 4
                  · have hf := ob_pos c26 hf
                    refine lv_tableIn (off := 65) (tgt := 173) hx hb dX10_told_108 (by rw [c26]; decide) (by rw [c26]; decide) (by rw [c26]; rfl) (by decide) ?_
                    refine lv_aload_n hx hb dX10_told_173 rfl (lv_at hl 0 rfl) ?_
                    refine va_get (D := D) (ci := 9) (v := .ref a_lines) (C := RX10) (T := TX10) (N := 9) hx hb hts iX10 hown hK hP 3 rfl rfl 4 (by decide) fl38 (fun _ h9 => h9) rfl dX10_told_174 ?_
                    refine va_get (D := D) (ci := 3) (v := .int v_lines_count) (C := RX4) (T := TX4) (N := 4) hx hb hts iX4 hown hK hP 1 rfl rfl 3 (by decide) fl117 (fun _ h9 => h9) rfl dX10_told_177 ?_
                    obtain rfl := Option.some.inj hf
                    exact hret _ _ _ _ dX10_told_180 hP hD hS
                  · have hf := ob_neg c26 hf
                    refine lv_tableOut (tgt := 181) hx hb dX10_told_108 (by have nc22 := lv_neT (a := 0) c22 (by decide); have nc23 := lv_neT (a := 1) c23 (by decide); have nc24 := lv_neT (a := 2) c24 (by decide); have nc25 := lv_neT (a := 3) c25 (by decide); have nc26 := lv_neT (a := 4) c26 (by decide); omega) (by decide) ?_
                    refine lv_bipush (v := (-2 : Int32)) hx hb dX10_told_181 (by decide) ?_
                    obtain rfl := Option.some.inj hf
                    exact hret _ _ _ _ dX10_told_183 hP hD hS
        · have hf := ob_neg c21 hf
          refine lv_iload_n hx hb dX10_told_72 rfl (lv_at hl 1 rfl) ?_
          refine lv_bipush (v := (36 : Int32)) hx hb dX10_told_73 (by decide) ?_
          refine lv_icmp_ge (tgt := 107) hx hb dX10_told_75 (by decide) (fun c28 => ?_) (fun c28 => ?_)
          · have hf := ob_pos c28 hf
            refine lv_iload_n hx hb dX10_told_107 rfl (lv_at hl 1 rfl) ?_
            by_cases c29 : x1 = 0
            · have hf := ob_pos c29 hf
              refine lv_tableIn (off := 36) (tgt := 144) hx hb dX10_told_108 (by rw [c29]; decide) (by rw [c29]; decide) (by rw [c29]; rfl) (by decide) ?_
              refine lv_aload_n hx hb dX10_told_144 rfl (lv_at hl 0 rfl) ?_
              refine va_get (D := D) (ci := 9) (v := .ref a_heaps) (C := RX10) (T := TX10) (N := 9) hx hb hts iX10 hown hK hP 3 rfl rfl 1 (by decide) fl21 (fun _ h9 => h9) rfl dX10_told_145 ?_
              refine va_get (D := D) (ci := 2) (v := .int v_heaps_count) (C := RX3) (T := TX3) (N := 4) hx hb hts iX3 hown hK hP 0 rfl rfl 3 (by decide) fl76 (fun _ h9 => h9) rfl dX10_told_148 ?_
              obtain rfl := Option.some.inj hf
              exact hret _ _ _ _ dX10_told_151 hP hD hS
            · have hf := ob_neg c29 hf
              by_cases c30 : x1 = 1
              · have hf := ob_pos c30 hf
                refine lv_tableIn (off := 44) (tgt := 152) hx hb dX10_told_108 (by rw [c30]; decide) (by rw [c30]; decide) (by rw [c30]; rfl) (by decide) ?_
                refine lv_aload_n hx hb dX10_told_152 rfl (lv_at hl 0 rfl) ?_
                refine va_get (D := D) (ci := 9) (v := .ref a_heaps) (C := RX10) (T := TX10) (N := 9) hx hb hts iX10 hown hK hP 3 rfl rfl 1 (by decide) fl21 (fun _ h9 => h9) rfl dX10_told_153 ?_
                obtain ⟨q34, hq34, hf⟩ := ob_bind hf
                refine k_Vi (wo := (wd_X10_told cyI cyJ cyZ a_heaps a_heaps_sets a_heaps_papers a_worths a_lines a_lines_sets a_lines_digits a_lines_fewer a_text a_text_signs a_this a_trial a_lawful a_groups a_ways a_worths_each a_worths_together v_heaps_count v_lines_count v_text_length v_seatCount v_heaps_papers v_heaps_sets v_worths_each)) (As := []) (rest := []) C (c_X3_total l D cyI cyJ cyZ a_heaps a_heaps_sets a_heaps_papers a_worths v_heaps_count v_heaps_papers  q34 hq34) cw229 hP hD hS [0, 5] [1, 2, 3, 4, 6, 7] [6, 0, 1, 2, 3, 7, 4, 5] rfl rfl rfl (by decide) 0 (ci := 2) rfl rfl rfl rfl rfl hl.1 (Nat.le_of_ble_eq_true rfl) dX10_told_156 ⟨Nat.zero_le _, Nat.zero_le _⟩ (fun H locs hP hD hS => ?_)
                obtain rfl := Option.some.inj hf
                exact hret _ _ _ _ dX10_told_159 hP hD hS
              · have hf := ob_neg c30 hf
                by_cases c31 : x1 = 2
                · have hf := ob_pos c31 hf
                  refine lv_tableIn (off := 52) (tgt := 160) hx hb dX10_told_108 (by rw [c31]; decide) (by rw [c31]; decide) (by rw [c31]; rfl) (by decide) ?_
                  refine lv_aload_n hx hb dX10_told_160 rfl (lv_at hl 0 rfl) ?_
                  refine va_get (D := D) (ci := 9) (v := .int v_seatCount) (C := RX10) (T := TX10) (N := 9) hx hb hts iX10 hown hK hP 3 rfl rfl 8 (by decide) fl65 (fun _ h9 => h9) rfl dX10_told_161 ?_
                  obtain rfl := Option.some.inj hf
                  exact hret _ _ _ _ dX10_told_164 hP hD hS
                · have hf := ob_neg c31 hf
                  by_cases c32 : x1 = 3
                  · have hf := ob_pos c32 hf
                    refine lv_tableIn (off := 57) (tgt := 165) hx hb dX10_told_108 (by rw [c32]; decide) (by rw [c32]; decide) (by rw [c32]; rfl) (by decide) ?_
                    refine lv_aload_n hx hb dX10_told_165 rfl (lv_at hl 0 rfl) ?_
                    refine va_get (D := D) (ci := 9) (v := .ref a_text) (C := RX10) (T := TX10) (N := 9) hx hb hts iX10 hown hK hP 3 rfl rfl 3 (by decide) fl31 (fun _ h9 => h9) rfl dX10_told_166 ?_
                    refine va_get (D := D) (ci := 6) (v := .int v_text_length) (C := RX7) (T := TX7) (N := 2) hx hb hts iX7 hown hK hP 2 rfl rfl 1 (by decide) fl103 (fun _ h9 => h9) rfl dX10_told_169 ?_
                    obtain rfl := Option.some.inj hf
                    exact hret _ _ _ _ dX10_told_172 hP hD hS
                  · have hf := ob_neg c32 hf
                    by_cases c33 : x1 = 4
                    · have hf := ob_pos c33 hf
                      refine lv_tableIn (off := 65) (tgt := 173) hx hb dX10_told_108 (by rw [c33]; decide) (by rw [c33]; decide) (by rw [c33]; rfl) (by decide) ?_
                      refine lv_aload_n hx hb dX10_told_173 rfl (lv_at hl 0 rfl) ?_
                      refine va_get (D := D) (ci := 9) (v := .ref a_lines) (C := RX10) (T := TX10) (N := 9) hx hb hts iX10 hown hK hP 3 rfl rfl 4 (by decide) fl38 (fun _ h9 => h9) rfl dX10_told_174 ?_
                      refine va_get (D := D) (ci := 3) (v := .int v_lines_count) (C := RX4) (T := TX4) (N := 4) hx hb hts iX4 hown hK hP 1 rfl rfl 3 (by decide) fl117 (fun _ h9 => h9) rfl dX10_told_177 ?_
                      obtain rfl := Option.some.inj hf
                      exact hret _ _ _ _ dX10_told_180 hP hD hS
                    · have hf := ob_neg c33 hf
                      refine lv_tableOut (tgt := 181) hx hb dX10_told_108 (by have nc29 := lv_neT (a := 0) c29 (by decide); have nc30 := lv_neT (a := 1) c30 (by decide); have nc31 := lv_neT (a := 2) c31 (by decide); have nc32 := lv_neT (a := 3) c32 (by decide); have nc33 := lv_neT (a := 4) c33 (by decide); omega) (by decide) ?_
                      refine lv_bipush (v := (-2 : Int32)) hx hb dX10_told_181 (by decide) ?_
                      obtain rfl := Option.some.inj hf
                      exact hret _ _ _ _ dX10_told_183 hP hD hS
          · have hf := ob_neg c28 hf
            refine lv_aload_n hx hb dX10_told_78 rfl (lv_at hl 0 rfl) ?_
            refine lv_iload_n hx hb dX10_told_79 rfl (lv_at hl 1 rfl) ?_
            refine lv_bipush (v := (30 : Int32)) hx hb dX10_told_80 (by decide) ?_
            refine lv_isub hx hb dX10_told_82 ?_
            obtain ⟨q35, hq35, hf⟩ := ob_bind hf
            refine k_Vz (wo := (wd_X10_told cyI cyJ cyZ a_heaps a_heaps_sets a_heaps_papers a_worths a_lines a_lines_sets a_lines_digits a_lines_fewer a_text a_text_signs a_this a_trial a_lawful a_groups a_ways a_worths_each a_worths_together v_heaps_count v_lines_count v_text_length v_seatCount v_heaps_papers v_heaps_sets v_worths_each)) (As := [.int (x1 - (30 : Int32))]) (rest := []) C (c_X10_isHeap l D cyI cyJ cyZ a_heaps a_heaps_sets a_heaps_papers a_worths a_this a_trial a_text a_lines a_lawful a_groups a_ways v_heaps_count v_seatCount (x1 - (30 : Int32)) q35 hq35) cw83 hP hD hS [0, 3] [1, 2, 4, 5, 6, 7] [6, 0, 1, 7, 2, 3, 4, 5] rfl rfl rfl (by decide) 1 (ci := 9) rfl rfl rfl rfl rfl hl.1 (Nat.le_of_ble_eq_true rfl) dX10_told_83 ⟨Nat.zero_le _, Nat.zero_le _⟩ (fun H locs zq35 hP hD hS => ?_)
            refine lv_if_eq (tgt := 104) hx hb dX10_told_86 (by decide) (fun c36 => ?_) (fun c36 => ?_)
            · have hf := ob_pos c36 hf
              refine lv_bipush (v := (-6 : Int32)) hx hb dX10_told_104 (by decide) ?_
              obtain rfl := Option.some.inj hf
              exact hret _ _ _ _ dX10_told_106 hP hD hS
            · have hf := ob_neg c36 hf
              refine lv_aload_n hx hb dX10_told_89 rfl (lv_at hl 0 rfl) ?_
              refine va_get (D := D) (ci := 9) (v := .ref a_heaps) (C := RX10) (T := TX10) (N := 9) hx hb hts iX10 hown hK hP 3 rfl rfl 1 (by decide) fl21 (fun _ h9 => h9) rfl dX10_told_90 ?_
              refine va_get (D := D) (ci := 2) (v := .ref a_heaps_sets) (C := RX3) (T := TX3) (N := 4) hx hb hts iX3 hown hK hP 0 rfl rfl 0 (by decide) fl86 (fun _ h9 => h9) rfl dX10_told_93 ?_
              refine lv_iload_n hx hb dX10_told_96 rfl (lv_at hl 1 rfl) ?_
              refine lv_bipush (v := (30 : Int32)) hx hb dX10_told_97 (by decide) ?_
              refine lv_isub hx hb dX10_told_99 ?_
              obtain ⟨h37, hf⟩ := og_in hf
              refine va_iald hx hb hK hP 6 0 rfl rfl h37 dX10_told_100 ?_
              refine lv_goto (tgt := 106) hx hb dX10_told_101 (by decide) ?_
              obtain rfl := Option.some.inj hf
              exact hret _ _ _ _ dX10_told_106 hP hD hS
      · have hf := ob_neg c20 hf
        refine lv_aload_n hx hb dX10_told_37 rfl (lv_at hl 0 rfl) ?_
        refine lv_iload_n hx hb dX10_told_38 rfl (lv_at hl 1 rfl) ?_
        refine lv_bipush (v := (20 : Int32)) hx hb dX10_told_39 (by decide) ?_
        refine lv_isub hx hb dX10_told_41 ?_
        obtain ⟨q38, hq38, hf⟩ := ob_bind hf
        refine k_Vz (wo := (wd_X10_told cyI cyJ cyZ a_heaps a_heaps_sets a_heaps_papers a_worths a_lines a_lines_sets a_lines_digits a_lines_fewer a_text a_text_signs a_this a_trial a_lawful a_groups a_ways a_worths_each a_worths_together v_heaps_count v_lines_count v_text_length v_seatCount v_heaps_papers v_heaps_sets v_worths_each)) (As := [.int (x1 - (20 : Int32))]) (rest := []) C (c_X10_isHeap l D cyI cyJ cyZ a_heaps a_heaps_sets a_heaps_papers a_worths a_this a_trial a_text a_lines a_lawful a_groups a_ways v_heaps_count v_seatCount (x1 - (20 : Int32)) q38 hq38) cw83 hP hD hS [0, 3] [1, 2, 4, 5, 6, 7] [6, 0, 1, 7, 2, 3, 4, 5] rfl rfl rfl (by decide) 1 (ci := 9) rfl rfl rfl rfl rfl hl.1 (Nat.le_of_ble_eq_true rfl) dX10_told_42 ⟨Nat.zero_le _, Nat.zero_le _⟩ (fun H locs zq38 hP hD hS => ?_)
        refine lv_if_eq (tgt := 63) hx hb dX10_told_45 (by decide) (fun c39 => ?_) (fun c39 => ?_)
        · have hf := ob_pos c39 hf
          refine lv_bipush (v := (-6 : Int32)) hx hb dX10_told_63 (by decide) ?_
          obtain rfl := Option.some.inj hf
          exact hret _ _ _ _ dX10_told_65 hP hD hS
        · have hf := ob_neg c39 hf
          refine lv_aload_n hx hb dX10_told_48 rfl (lv_at hl 0 rfl) ?_
          refine va_get (D := D) (ci := 9) (v := .ref a_heaps) (C := RX10) (T := TX10) (N := 9) hx hb hts iX10 hown hK hP 3 rfl rfl 1 (by decide) fl21 (fun _ h9 => h9) rfl dX10_told_49 ?_
          refine va_get (D := D) (ci := 2) (v := .ref a_heaps_papers) (C := RX3) (T := TX3) (N := 4) hx hb hts iX3 hown hK hP 0 rfl rfl 1 (by decide) fl90 (fun _ h9 => h9) rfl dX10_told_52 ?_
          refine lv_iload_n hx hb dX10_told_55 rfl (lv_at hl 1 rfl) ?_
          refine lv_bipush (v := (20 : Int32)) hx hb dX10_told_56 (by decide) ?_
          refine lv_isub hx hb dX10_told_58 ?_
          obtain ⟨h40, hf⟩ := og_in hf
          refine va_iald hx hb hK hP 5 0 rfl rfl h40 dX10_told_59 ?_
          refine lv_goto (tgt := 65) hx hb dX10_told_60 (by decide) ?_
          obtain rfl := Option.some.inj hf
          exact hret _ _ _ _ dX10_told_65 hP hD hS
  · have hf := ob_neg c1 hf
    refine lv_iload_n hx hb dX10_told_6 rfl (lv_at hl 1 rfl) ?_
    refine lv_bipush (v := (14 : Int32)) hx hb dX10_told_7 (by decide) ?_
    refine lv_icmp_ge (tgt := 25) hx hb dX10_told_9 (by decide) (fun c41 => ?_) (fun c41 => ?_)
    · have hf := ob_pos c41 hf
      refine lv_iload_n hx hb dX10_told_25 rfl (lv_at hl 1 rfl) ?_
      refine lv_bipush (v := (20 : Int32)) hx hb dX10_told_26 (by decide) ?_
      refine lv_icmp_lt (tgt := 66) hx hb dX10_told_28 (by decide) (fun c42 => ?_) (fun c42 => ?_)
      · have hf := ob_pos c42 hf
        refine lv_iload_n hx hb dX10_told_66 rfl (lv_at hl 1 rfl) ?_
        refine lv_bipush (v := (30 : Int32)) hx hb dX10_told_67 (by decide) ?_
        refine lv_icmp_lt (tgt := 107) hx hb dX10_told_69 (by decide) (fun c43 => ?_) (fun c43 => ?_)
        · have hf := ob_pos c43 hf
          refine lv_iload_n hx hb dX10_told_107 rfl (lv_at hl 1 rfl) ?_
          by_cases c44 : x1 = 0
          · have hf := ob_pos c44 hf
            refine lv_tableIn (off := 36) (tgt := 144) hx hb dX10_told_108 (by rw [c44]; decide) (by rw [c44]; decide) (by rw [c44]; rfl) (by decide) ?_
            refine lv_aload_n hx hb dX10_told_144 rfl (lv_at hl 0 rfl) ?_
            refine va_get (D := D) (ci := 9) (v := .ref a_heaps) (C := RX10) (T := TX10) (N := 9) hx hb hts iX10 hown hK hP 3 rfl rfl 1 (by decide) fl21 (fun _ h9 => h9) rfl dX10_told_145 ?_
            refine va_get (D := D) (ci := 2) (v := .int v_heaps_count) (C := RX3) (T := TX3) (N := 4) hx hb hts iX3 hown hK hP 0 rfl rfl 3 (by decide) fl76 (fun _ h9 => h9) rfl dX10_told_148 ?_
            obtain rfl := Option.some.inj hf
            exact hret _ _ _ _ dX10_told_151 hP hD hS
          · have hf := ob_neg c44 hf
            by_cases c45 : x1 = 1
            · have hf := ob_pos c45 hf
              refine lv_tableIn (off := 44) (tgt := 152) hx hb dX10_told_108 (by rw [c45]; decide) (by rw [c45]; decide) (by rw [c45]; rfl) (by decide) ?_
              refine lv_aload_n hx hb dX10_told_152 rfl (lv_at hl 0 rfl) ?_
              refine va_get (D := D) (ci := 9) (v := .ref a_heaps) (C := RX10) (T := TX10) (N := 9) hx hb hts iX10 hown hK hP 3 rfl rfl 1 (by decide) fl21 (fun _ h9 => h9) rfl dX10_told_153 ?_
              obtain ⟨q49, hq49, hf⟩ := ob_bind hf
              refine k_Vi (wo := (wd_X10_told cyI cyJ cyZ a_heaps a_heaps_sets a_heaps_papers a_worths a_lines a_lines_sets a_lines_digits a_lines_fewer a_text a_text_signs a_this a_trial a_lawful a_groups a_ways a_worths_each a_worths_together v_heaps_count v_lines_count v_text_length v_seatCount v_heaps_papers v_heaps_sets v_worths_each)) (As := []) (rest := []) C (c_X3_total l D cyI cyJ cyZ a_heaps a_heaps_sets a_heaps_papers a_worths v_heaps_count v_heaps_papers  q49 hq49) cw229 hP hD hS [0, 5] [1, 2, 3, 4, 6, 7] [6, 0, 1, 2, 3, 7, 4, 5] rfl rfl rfl (by decide) 0 (ci := 2) rfl rfl rfl rfl rfl hl.1 (Nat.le_of_ble_eq_true rfl) dX10_told_156 ⟨Nat.zero_le _, Nat.zero_le _⟩ (fun H locs hP hD hS => ?_)
              obtain rfl := Option.some.inj hf
              exact hret _ _ _ _ dX10_told_159 hP hD hS
            · have hf := ob_neg c45 hf
              by_cases c46 : x1 = 2
              · have hf := ob_pos c46 hf
                refine lv_tableIn (off := 52) (tgt := 160) hx hb dX10_told_108 (by rw [c46]; decide) (by rw [c46]; decide) (by rw [c46]; rfl) (by decide) ?_
                refine lv_aload_n hx hb dX10_told_160 rfl (lv_at hl 0 rfl) ?_
                refine va_get (D := D) (ci := 9) (v := .int v_seatCount) (C := RX10) (T := TX10) (N := 9) hx hb hts iX10 hown hK hP 3 rfl rfl 8 (by decide) fl65 (fun _ h9 => h9) rfl dX10_told_161 ?_
                obtain rfl := Option.some.inj hf
                exact hret _ _ _ _ dX10_told_164 hP hD hS
              · have hf := ob_neg c46 hf
                by_cases c47 : x1 = 3
                · have hf := ob_pos c47 hf
                  refine lv_tableIn (off := 57) (tgt := 165) hx hb dX10_told_108 (by rw [c47]; decide) (by rw [c47]; decide) (by rw [c47]; rfl) (by decide) ?_
                  refine lv_aload_n hx hb dX10_told_165 rfl (lv_at hl 0 rfl) ?_
                  refine va_get (D := D) (ci := 9) (v := .ref a_text) (C := RX10) (T := TX10) (N := 9) hx hb hts iX10 hown hK hP 3 rfl rfl 3 (by decide) fl31 (fun _ h9 => h9) rfl dX10_told_166 ?_
                  refine va_get (D := D) (ci := 6) (v := .int v_text_length) (C := RX7) (T := TX7) (N := 2) hx hb hts iX7 hown hK hP 2 rfl rfl 1 (by decide) fl103 (fun _ h9 => h9) rfl dX10_told_169 ?_
                  obtain rfl := Option.some.inj hf
                  exact hret _ _ _ _ dX10_told_172 hP hD hS
                · have hf := ob_neg c47 hf
                  by_cases c48 : x1 = 4
                  · have hf := ob_pos c48 hf
                    refine lv_tableIn (off := 65) (tgt := 173) hx hb dX10_told_108 (by rw [c48]; decide) (by rw [c48]; decide) (by rw [c48]; rfl) (by decide) ?_
                    refine lv_aload_n hx hb dX10_told_173 rfl (lv_at hl 0 rfl) ?_
                    refine va_get (D := D) (ci := 9) (v := .ref a_lines) (C := RX10) (T := TX10) (N := 9) hx hb hts iX10 hown hK hP 3 rfl rfl 4 (by decide) fl38 (fun _ h9 => h9) rfl dX10_told_174 ?_
                    refine va_get (D := D) (ci := 3) (v := .int v_lines_count) (C := RX4) (T := TX4) (N := 4) hx hb hts iX4 hown hK hP 1 rfl rfl 3 (by decide) fl117 (fun _ h9 => h9) rfl dX10_told_177 ?_
                    obtain rfl := Option.some.inj hf
                    exact hret _ _ _ _ dX10_told_180 hP hD hS
                  · have hf := ob_neg c48 hf
                    refine lv_tableOut (tgt := 181) hx hb dX10_told_108 (by have nc44 := lv_neT (a := 0) c44 (by decide); have nc45 := lv_neT (a := 1) c45 (by decide); have nc46 := lv_neT (a := 2) c46 (by decide); have nc47 := lv_neT (a := 3) c47 (by decide); have nc48 := lv_neT (a := 4) c48 (by decide); omega) (by decide) ?_
                    refine lv_bipush (v := (-2 : Int32)) hx hb dX10_told_181 (by decide) ?_
                    obtain rfl := Option.some.inj hf
                    exact hret _ _ _ _ dX10_told_183 hP hD hS
        · have hf := ob_neg c43 hf
          refine lv_iload_n hx hb dX10_told_72 rfl (lv_at hl 1 rfl) ?_
          refine lv_bipush (v := (36 : Int32)) hx hb dX10_told_73 (by decide) ?_
          refine lv_icmp_ge (tgt := 107) hx hb dX10_told_75 (by decide) (fun c50 => ?_) (fun c50 => ?_)
          · have hf := ob_pos c50 hf
            refine lv_iload_n hx hb dX10_told_107 rfl (lv_at hl 1 rfl) ?_
            by_cases c51 : x1 = 0
            · have hf := ob_pos c51 hf
              refine lv_tableIn (off := 36) (tgt := 144) hx hb dX10_told_108 (by rw [c51]; decide) (by rw [c51]; decide) (by rw [c51]; rfl) (by decide) ?_
              refine lv_aload_n hx hb dX10_told_144 rfl (lv_at hl 0 rfl) ?_
              refine va_get (D := D) (ci := 9) (v := .ref a_heaps) (C := RX10) (T := TX10) (N := 9) hx hb hts iX10 hown hK hP 3 rfl rfl 1 (by decide) fl21 (fun _ h9 => h9) rfl dX10_told_145 ?_
              refine va_get (D := D) (ci := 2) (v := .int v_heaps_count) (C := RX3) (T := TX3) (N := 4) hx hb hts iX3 hown hK hP 0 rfl rfl 3 (by decide) fl76 (fun _ h9 => h9) rfl dX10_told_148 ?_
              obtain rfl := Option.some.inj hf
              exact hret _ _ _ _ dX10_told_151 hP hD hS
            · have hf := ob_neg c51 hf
              by_cases c52 : x1 = 1
              · have hf := ob_pos c52 hf
                refine lv_tableIn (off := 44) (tgt := 152) hx hb dX10_told_108 (by rw [c52]; decide) (by rw [c52]; decide) (by rw [c52]; rfl) (by decide) ?_
                refine lv_aload_n hx hb dX10_told_152 rfl (lv_at hl 0 rfl) ?_
                refine va_get (D := D) (ci := 9) (v := .ref a_heaps) (C := RX10) (T := TX10) (N := 9) hx hb hts iX10 hown hK hP 3 rfl rfl 1 (by decide) fl21 (fun _ h9 => h9) rfl dX10_told_153 ?_
                obtain ⟨q56, hq56, hf⟩ := ob_bind hf
                refine k_Vi (wo := (wd_X10_told cyI cyJ cyZ a_heaps a_heaps_sets a_heaps_papers a_worths a_lines a_lines_sets a_lines_digits a_lines_fewer a_text a_text_signs a_this a_trial a_lawful a_groups a_ways a_worths_each a_worths_together v_heaps_count v_lines_count v_text_length v_seatCount v_heaps_papers v_heaps_sets v_worths_each)) (As := []) (rest := []) C (c_X3_total l D cyI cyJ cyZ a_heaps a_heaps_sets a_heaps_papers a_worths v_heaps_count v_heaps_papers  q56 hq56) cw229 hP hD hS [0, 5] [1, 2, 3, 4, 6, 7] [6, 0, 1, 2, 3, 7, 4, 5] rfl rfl rfl (by decide) 0 (ci := 2) rfl rfl rfl rfl rfl hl.1 (Nat.le_of_ble_eq_true rfl) dX10_told_156 ⟨Nat.zero_le _, Nat.zero_le _⟩ (fun H locs hP hD hS => ?_)
                obtain rfl := Option.some.inj hf
                exact hret _ _ _ _ dX10_told_159 hP hD hS
              · have hf := ob_neg c52 hf
                by_cases c53 : x1 = 2
                · have hf := ob_pos c53 hf
                  refine lv_tableIn (off := 52) (tgt := 160) hx hb dX10_told_108 (by rw [c53]; decide) (by rw [c53]; decide) (by rw [c53]; rfl) (by decide) ?_
                  refine lv_aload_n hx hb dX10_told_160 rfl (lv_at hl 0 rfl) ?_
                  refine va_get (D := D) (ci := 9) (v := .int v_seatCount) (C := RX10) (T := TX10) (N := 9) hx hb hts iX10 hown hK hP 3 rfl rfl 8 (by decide) fl65 (fun _ h9 => h9) rfl dX10_told_161 ?_
                  obtain rfl := Option.some.inj hf
                  exact hret _ _ _ _ dX10_told_164 hP hD hS
                · have hf := ob_neg c53 hf
                  by_cases c54 : x1 = 3
                  · have hf := ob_pos c54 hf
                    refine lv_tableIn (off := 57) (tgt := 165) hx hb dX10_told_108 (by rw [c54]; decide) (by rw [c54]; decide) (by rw [c54]; rfl) (by decide) ?_
                    refine lv_aload_n hx hb dX10_told_165 rfl (lv_at hl 0 rfl) ?_
                    refine va_get (D := D) (ci := 9) (v := .ref a_text) (C := RX10) (T := TX10) (N := 9) hx hb hts iX10 hown hK hP 3 rfl rfl 3 (by decide) fl31 (fun _ h9 => h9) rfl dX10_told_166 ?_
                    refine va_get (D := D) (ci := 6) (v := .int v_text_length) (C := RX7) (T := TX7) (N := 2) hx hb hts iX7 hown hK hP 2 rfl rfl 1 (by decide) fl103 (fun _ h9 => h9) rfl dX10_told_169 ?_
                    obtain rfl := Option.some.inj hf
                    exact hret _ _ _ _ dX10_told_172 hP hD hS
                  · have hf := ob_neg c54 hf
                    by_cases c55 : x1 = 4
                    · have hf := ob_pos c55 hf
                      refine lv_tableIn (off := 65) (tgt := 173) hx hb dX10_told_108 (by rw [c55]; decide) (by rw [c55]; decide) (by rw [c55]; rfl) (by decide) ?_
                      refine lv_aload_n hx hb dX10_told_173 rfl (lv_at hl 0 rfl) ?_
                      refine va_get (D := D) (ci := 9) (v := .ref a_lines) (C := RX10) (T := TX10) (N := 9) hx hb hts iX10 hown hK hP 3 rfl rfl 4 (by decide) fl38 (fun _ h9 => h9) rfl dX10_told_174 ?_
                      refine va_get (D := D) (ci := 3) (v := .int v_lines_count) (C := RX4) (T := TX4) (N := 4) hx hb hts iX4 hown hK hP 1 rfl rfl 3 (by decide) fl117 (fun _ h9 => h9) rfl dX10_told_177 ?_
                      obtain rfl := Option.some.inj hf
                      exact hret _ _ _ _ dX10_told_180 hP hD hS
                    · have hf := ob_neg c55 hf
                      refine lv_tableOut (tgt := 181) hx hb dX10_told_108 (by have nc51 := lv_neT (a := 0) c51 (by decide); have nc52 := lv_neT (a := 1) c52 (by decide); have nc53 := lv_neT (a := 2) c53 (by decide); have nc54 := lv_neT (a := 3) c54 (by decide); have nc55 := lv_neT (a := 4) c55 (by decide); omega) (by decide) ?_
                      refine lv_bipush (v := (-2 : Int32)) hx hb dX10_told_181 (by decide) ?_
                      obtain rfl := Option.some.inj hf
                      exact hret _ _ _ _ dX10_told_183 hP hD hS
          · have hf := ob_neg c50 hf
            refine lv_aload_n hx hb dX10_told_78 rfl (lv_at hl 0 rfl) ?_
            refine lv_iload_n hx hb dX10_told_79 rfl (lv_at hl 1 rfl) ?_
            refine lv_bipush (v := (30 : Int32)) hx hb dX10_told_80 (by decide) ?_
            refine lv_isub hx hb dX10_told_82 ?_
            obtain ⟨q57, hq57, hf⟩ := ob_bind hf
            refine k_Vz (wo := (wd_X10_told cyI cyJ cyZ a_heaps a_heaps_sets a_heaps_papers a_worths a_lines a_lines_sets a_lines_digits a_lines_fewer a_text a_text_signs a_this a_trial a_lawful a_groups a_ways a_worths_each a_worths_together v_heaps_count v_lines_count v_text_length v_seatCount v_heaps_papers v_heaps_sets v_worths_each)) (As := [.int (x1 - (30 : Int32))]) (rest := []) C (c_X10_isHeap l D cyI cyJ cyZ a_heaps a_heaps_sets a_heaps_papers a_worths a_this a_trial a_text a_lines a_lawful a_groups a_ways v_heaps_count v_seatCount (x1 - (30 : Int32)) q57 hq57) cw83 hP hD hS [0, 3] [1, 2, 4, 5, 6, 7] [6, 0, 1, 7, 2, 3, 4, 5] rfl rfl rfl (by decide) 1 (ci := 9) rfl rfl rfl rfl rfl hl.1 (Nat.le_of_ble_eq_true rfl) dX10_told_83 ⟨Nat.zero_le _, Nat.zero_le _⟩ (fun H locs zq57 hP hD hS => ?_)
            refine lv_if_eq (tgt := 104) hx hb dX10_told_86 (by decide) (fun c58 => ?_) (fun c58 => ?_)
            · have hf := ob_pos c58 hf
              refine lv_bipush (v := (-6 : Int32)) hx hb dX10_told_104 (by decide) ?_
              obtain rfl := Option.some.inj hf
              exact hret _ _ _ _ dX10_told_106 hP hD hS
            · have hf := ob_neg c58 hf
              refine lv_aload_n hx hb dX10_told_89 rfl (lv_at hl 0 rfl) ?_
              refine va_get (D := D) (ci := 9) (v := .ref a_heaps) (C := RX10) (T := TX10) (N := 9) hx hb hts iX10 hown hK hP 3 rfl rfl 1 (by decide) fl21 (fun _ h9 => h9) rfl dX10_told_90 ?_
              refine va_get (D := D) (ci := 2) (v := .ref a_heaps_sets) (C := RX3) (T := TX3) (N := 4) hx hb hts iX3 hown hK hP 0 rfl rfl 0 (by decide) fl86 (fun _ h9 => h9) rfl dX10_told_93 ?_
              refine lv_iload_n hx hb dX10_told_96 rfl (lv_at hl 1 rfl) ?_
              refine lv_bipush (v := (30 : Int32)) hx hb dX10_told_97 (by decide) ?_
              refine lv_isub hx hb dX10_told_99 ?_
              obtain ⟨h59, hf⟩ := og_in hf
              refine va_iald hx hb hK hP 6 0 rfl rfl h59 dX10_told_100 ?_
              refine lv_goto (tgt := 106) hx hb dX10_told_101 (by decide) ?_
              obtain rfl := Option.some.inj hf
              exact hret _ _ _ _ dX10_told_106 hP hD hS
      · have hf := ob_neg c42 hf
        refine lv_iload_n hx hb dX10_told_31 rfl (lv_at hl 1 rfl) ?_
        refine lv_bipush (v := (26 : Int32)) hx hb dX10_told_32 (by decide) ?_
        refine lv_icmp_ge (tgt := 66) hx hb dX10_told_34 (by decide) (fun c60 => ?_) (fun c60 => ?_)
        · have hf := ob_pos c60 hf
          refine lv_iload_n hx hb dX10_told_66 rfl (lv_at hl 1 rfl) ?_
          refine lv_bipush (v := (30 : Int32)) hx hb dX10_told_67 (by decide) ?_
          refine lv_icmp_lt (tgt := 107) hx hb dX10_told_69 (by decide) (fun c61 => ?_) (fun c61 => ?_)
          · have hf := ob_pos c61 hf
            refine lv_iload_n hx hb dX10_told_107 rfl (lv_at hl 1 rfl) ?_
            by_cases c62 : x1 = 0
            · have hf := ob_pos c62 hf
              refine lv_tableIn (off := 36) (tgt := 144) hx hb dX10_told_108 (by rw [c62]; decide) (by rw [c62]; decide) (by rw [c62]; rfl) (by decide) ?_
              refine lv_aload_n hx hb dX10_told_144 rfl (lv_at hl 0 rfl) ?_
              refine va_get (D := D) (ci := 9) (v := .ref a_heaps) (C := RX10) (T := TX10) (N := 9) hx hb hts iX10 hown hK hP 3 rfl rfl 1 (by decide) fl21 (fun _ h9 => h9) rfl dX10_told_145 ?_
              refine va_get (D := D) (ci := 2) (v := .int v_heaps_count) (C := RX3) (T := TX3) (N := 4) hx hb hts iX3 hown hK hP 0 rfl rfl 3 (by decide) fl76 (fun _ h9 => h9) rfl dX10_told_148 ?_
              obtain rfl := Option.some.inj hf
              exact hret _ _ _ _ dX10_told_151 hP hD hS
            · have hf := ob_neg c62 hf
              by_cases c63 : x1 = 1
              · have hf := ob_pos c63 hf
                refine lv_tableIn (off := 44) (tgt := 152) hx hb dX10_told_108 (by rw [c63]; decide) (by rw [c63]; decide) (by rw [c63]; rfl) (by decide) ?_
                refine lv_aload_n hx hb dX10_told_152 rfl (lv_at hl 0 rfl) ?_
                refine va_get (D := D) (ci := 9) (v := .ref a_heaps) (C := RX10) (T := TX10) (N := 9) hx hb hts iX10 hown hK hP 3 rfl rfl 1 (by decide) fl21 (fun _ h9 => h9) rfl dX10_told_153 ?_
                obtain ⟨q67, hq67, hf⟩ := ob_bind hf
                refine k_Vi (wo := (wd_X10_told cyI cyJ cyZ a_heaps a_heaps_sets a_heaps_papers a_worths a_lines a_lines_sets a_lines_digits a_lines_fewer a_text a_text_signs a_this a_trial a_lawful a_groups a_ways a_worths_each a_worths_together v_heaps_count v_lines_count v_text_length v_seatCount v_heaps_papers v_heaps_sets v_worths_each)) (As := []) (rest := []) C (c_X3_total l D cyI cyJ cyZ a_heaps a_heaps_sets a_heaps_papers a_worths v_heaps_count v_heaps_papers  q67 hq67) cw229 hP hD hS [0, 5] [1, 2, 3, 4, 6, 7] [6, 0, 1, 2, 3, 7, 4, 5] rfl rfl rfl (by decide) 0 (ci := 2) rfl rfl rfl rfl rfl hl.1 (Nat.le_of_ble_eq_true rfl) dX10_told_156 ⟨Nat.zero_le _, Nat.zero_le _⟩ (fun H locs hP hD hS => ?_)
                obtain rfl := Option.some.inj hf
                exact hret _ _ _ _ dX10_told_159 hP hD hS
              · have hf := ob_neg c63 hf
                by_cases c64 : x1 = 2
                · have hf := ob_pos c64 hf
                  refine lv_tableIn (off := 52) (tgt := 160) hx hb dX10_told_108 (by rw [c64]; decide) (by rw [c64]; decide) (by rw [c64]; rfl) (by decide) ?_
                  refine lv_aload_n hx hb dX10_told_160 rfl (lv_at hl 0 rfl) ?_
                  refine va_get (D := D) (ci := 9) (v := .int v_seatCount) (C := RX10) (T := TX10) (N := 9) hx hb hts iX10 hown hK hP 3 rfl rfl 8 (by decide) fl65 (fun _ h9 => h9) rfl dX10_told_161 ?_
                  obtain rfl := Option.some.inj hf
                  exact hret _ _ _ _ dX10_told_164 hP hD hS
                · have hf := ob_neg c64 hf
                  by_cases c65 : x1 = 3
                  · have hf := ob_pos c65 hf
                    refine lv_tableIn (off := 57) (tgt := 165) hx hb dX10_told_108 (by rw [c65]; decide) (by rw [c65]; decide) (by rw [c65]; rfl) (by decide) ?_
                    refine lv_aload_n hx hb dX10_told_165 rfl (lv_at hl 0 rfl) ?_
                    refine va_get (D := D) (ci := 9) (v := .ref a_text) (C := RX10) (T := TX10) (N := 9) hx hb hts iX10 hown hK hP 3 rfl rfl 3 (by decide) fl31 (fun _ h9 => h9) rfl dX10_told_166 ?_
                    refine va_get (D := D) (ci := 6) (v := .int v_text_length) (C := RX7) (T := TX7) (N := 2) hx hb hts iX7 hown hK hP 2 rfl rfl 1 (by decide) fl103 (fun _ h9 => h9) rfl dX10_told_169 ?_
                    obtain rfl := Option.some.inj hf
                    exact hret _ _ _ _ dX10_told_172 hP hD hS
                  · have hf := ob_neg c65 hf
                    by_cases c66 : x1 = 4
                    · have hf := ob_pos c66 hf
                      refine lv_tableIn (off := 65) (tgt := 173) hx hb dX10_told_108 (by rw [c66]; decide) (by rw [c66]; decide) (by rw [c66]; rfl) (by decide) ?_
                      refine lv_aload_n hx hb dX10_told_173 rfl (lv_at hl 0 rfl) ?_
                      refine va_get (D := D) (ci := 9) (v := .ref a_lines) (C := RX10) (T := TX10) (N := 9) hx hb hts iX10 hown hK hP 3 rfl rfl 4 (by decide) fl38 (fun _ h9 => h9) rfl dX10_told_174 ?_
                      refine va_get (D := D) (ci := 3) (v := .int v_lines_count) (C := RX4) (T := TX4) (N := 4) hx hb hts iX4 hown hK hP 1 rfl rfl 3 (by decide) fl117 (fun _ h9 => h9) rfl dX10_told_177 ?_
                      obtain rfl := Option.some.inj hf
                      exact hret _ _ _ _ dX10_told_180 hP hD hS
                    · have hf := ob_neg c66 hf
                      refine lv_tableOut (tgt := 181) hx hb dX10_told_108 (by have nc62 := lv_neT (a := 0) c62 (by decide); have nc63 := lv_neT (a := 1) c63 (by decide); have nc64 := lv_neT (a := 2) c64 (by decide); have nc65 := lv_neT (a := 3) c65 (by decide); have nc66 := lv_neT (a := 4) c66 (by decide); omega) (by decide) ?_
                      refine lv_bipush (v := (-2 : Int32)) hx hb dX10_told_181 (by decide) ?_
                      obtain rfl := Option.some.inj hf
                      exact hret _ _ _ _ dX10_told_183 hP hD hS
          · have hf := ob_neg c61 hf
            refine lv_iload_n hx hb dX10_told_72 rfl (lv_at hl 1 rfl) ?_
            refine lv_bipush (v := (36 : Int32)) hx hb dX10_told_73 (by decide) ?_
            refine lv_icmp_ge (tgt := 107) hx hb dX10_told_75 (by decide) (fun c68 => ?_) (fun c68 => ?_)
            · have hf := ob_pos c68 hf
              refine lv_iload_n hx hb dX10_told_107 rfl (lv_at hl 1 rfl) ?_
              by_cases c69 : x1 = 0
              · have hf := ob_pos c69 hf
                refine lv_tableIn (off := 36) (tgt := 144) hx hb dX10_told_108 (by rw [c69]; decide) (by rw [c69]; decide) (by rw [c69]; rfl) (by decide) ?_
                refine lv_aload_n hx hb dX10_told_144 rfl (lv_at hl 0 rfl) ?_
                refine va_get (D := D) (ci := 9) (v := .ref a_heaps) (C := RX10) (T := TX10) (N := 9) hx hb hts iX10 hown hK hP 3 rfl rfl 1 (by decide) fl21 (fun _ h9 => h9) rfl dX10_told_145 ?_
                refine va_get (D := D) (ci := 2) (v := .int v_heaps_count) (C := RX3) (T := TX3) (N := 4) hx hb hts iX3 hown hK hP 0 rfl rfl 3 (by decide) fl76 (fun _ h9 => h9) rfl dX10_told_148 ?_
                obtain rfl := Option.some.inj hf
                exact hret _ _ _ _ dX10_told_151 hP hD hS
              · have hf := ob_neg c69 hf
                by_cases c70 : x1 = 1
                · have hf := ob_pos c70 hf
                  refine lv_tableIn (off := 44) (tgt := 152) hx hb dX10_told_108 (by rw [c70]; decide) (by rw [c70]; decide) (by rw [c70]; rfl) (by decide) ?_
                  refine lv_aload_n hx hb dX10_told_152 rfl (lv_at hl 0 rfl) ?_
                  refine va_get (D := D) (ci := 9) (v := .ref a_heaps) (C := RX10) (T := TX10) (N := 9) hx hb hts iX10 hown hK hP 3 rfl rfl 1 (by decide) fl21 (fun _ h9 => h9) rfl dX10_told_153 ?_
                  obtain ⟨q74, hq74, hf⟩ := ob_bind hf
                  refine k_Vi (wo := (wd_X10_told cyI cyJ cyZ a_heaps a_heaps_sets a_heaps_papers a_worths a_lines a_lines_sets a_lines_digits a_lines_fewer a_text a_text_signs a_this a_trial a_lawful a_groups a_ways a_worths_each a_worths_together v_heaps_count v_lines_count v_text_length v_seatCount v_heaps_papers v_heaps_sets v_worths_each)) (As := []) (rest := []) C (c_X3_total l D cyI cyJ cyZ a_heaps a_heaps_sets a_heaps_papers a_worths v_heaps_count v_heaps_papers  q74 hq74) cw229 hP hD hS [0, 5] [1, 2, 3, 4, 6, 7] [6, 0, 1, 2, 3, 7, 4, 5] rfl rfl rfl (by decide) 0 (ci := 2) rfl rfl rfl rfl rfl hl.1 (Nat.le_of_ble_eq_true rfl) dX10_told_156 ⟨Nat.zero_le _, Nat.zero_le _⟩ (fun H locs hP hD hS => ?_)
                  obtain rfl := Option.some.inj hf
                  exact hret _ _ _ _ dX10_told_159 hP hD hS
                · have hf := ob_neg c70 hf
                  by_cases c71 : x1 = 2
                  · have hf := ob_pos c71 hf
                    refine lv_tableIn (off := 52) (tgt := 160) hx hb dX10_told_108 (by rw [c71]; decide) (by rw [c71]; decide) (by rw [c71]; rfl) (by decide) ?_
                    refine lv_aload_n hx hb dX10_told_160 rfl (lv_at hl 0 rfl) ?_
                    refine va_get (D := D) (ci := 9) (v := .int v_seatCount) (C := RX10) (T := TX10) (N := 9) hx hb hts iX10 hown hK hP 3 rfl rfl 8 (by decide) fl65 (fun _ h9 => h9) rfl dX10_told_161 ?_
                    obtain rfl := Option.some.inj hf
                    exact hret _ _ _ _ dX10_told_164 hP hD hS
                  · have hf := ob_neg c71 hf
                    by_cases c72 : x1 = 3
                    · have hf := ob_pos c72 hf
                      refine lv_tableIn (off := 57) (tgt := 165) hx hb dX10_told_108 (by rw [c72]; decide) (by rw [c72]; decide) (by rw [c72]; rfl) (by decide) ?_
                      refine lv_aload_n hx hb dX10_told_165 rfl (lv_at hl 0 rfl) ?_
                      refine va_get (D := D) (ci := 9) (v := .ref a_text) (C := RX10) (T := TX10) (N := 9) hx hb hts iX10 hown hK hP 3 rfl rfl 3 (by decide) fl31 (fun _ h9 => h9) rfl dX10_told_166 ?_
                      refine va_get (D := D) (ci := 6) (v := .int v_text_length) (C := RX7) (T := TX7) (N := 2) hx hb hts iX7 hown hK hP 2 rfl rfl 1 (by decide) fl103 (fun _ h9 => h9) rfl dX10_told_169 ?_
                      obtain rfl := Option.some.inj hf
                      exact hret _ _ _ _ dX10_told_172 hP hD hS
                    · have hf := ob_neg c72 hf
                      by_cases c73 : x1 = 4
                      · have hf := ob_pos c73 hf
                        refine lv_tableIn (off := 65) (tgt := 173) hx hb dX10_told_108 (by rw [c73]; decide) (by rw [c73]; decide) (by rw [c73]; rfl) (by decide) ?_
                        refine lv_aload_n hx hb dX10_told_173 rfl (lv_at hl 0 rfl) ?_
                        refine va_get (D := D) (ci := 9) (v := .ref a_lines) (C := RX10) (T := TX10) (N := 9) hx hb hts iX10 hown hK hP 3 rfl rfl 4 (by decide) fl38 (fun _ h9 => h9) rfl dX10_told_174 ?_
                        refine va_get (D := D) (ci := 3) (v := .int v_lines_count) (C := RX4) (T := TX4) (N := 4) hx hb hts iX4 hown hK hP 1 rfl rfl 3 (by decide) fl117 (fun _ h9 => h9) rfl dX10_told_177 ?_
                        obtain rfl := Option.some.inj hf
                        exact hret _ _ _ _ dX10_told_180 hP hD hS
                      · have hf := ob_neg c73 hf
                        refine lv_tableOut (tgt := 181) hx hb dX10_told_108 (by have nc69 := lv_neT (a := 0) c69 (by decide); have nc70 := lv_neT (a := 1) c70 (by decide); have nc71 := lv_neT (a := 2) c71 (by decide); have nc72 := lv_neT (a := 3) c72 (by decide); have nc73 := lv_neT (a := 4) c73 (by decide); omega) (by decide) ?_
                        refine lv_bipush (v := (-2 : Int32)) hx hb dX10_told_181 (by decide) ?_
                        obtain rfl := Option.some.inj hf
                        exact hret _ _ _ _ dX10_told_183 hP hD hS
            · have hf := ob_neg c68 hf
              refine lv_aload_n hx hb dX10_told_78 rfl (lv_at hl 0 rfl) ?_
              refine lv_iload_n hx hb dX10_told_79 rfl (lv_at hl 1 rfl) ?_
              refine lv_bipush (v := (30 : Int32)) hx hb dX10_told_80 (by decide) ?_
              refine lv_isub hx hb dX10_told_82 ?_
              obtain ⟨q75, hq75, hf⟩ := ob_bind hf
              refine k_Vz (wo := (wd_X10_told cyI cyJ cyZ a_heaps a_heaps_sets a_heaps_papers a_worths a_lines a_lines_sets a_lines_digits a_lines_fewer a_text a_text_signs a_this a_trial a_lawful a_groups a_ways a_worths_each a_worths_together v_heaps_count v_lines_count v_text_length v_seatCount v_heaps_papers v_heaps_sets v_worths_each)) (As := [.int (x1 - (30 : Int32))]) (rest := []) C (c_X10_isHeap l D cyI cyJ cyZ a_heaps a_heaps_sets a_heaps_papers a_worths a_this a_trial a_text a_lines a_lawful a_groups a_ways v_heaps_count v_seatCount (x1 - (30 : Int32)) q75 hq75) cw83 hP hD hS [0, 3] [1, 2, 4, 5, 6, 7] [6, 0, 1, 7, 2, 3, 4, 5] rfl rfl rfl (by decide) 1 (ci := 9) rfl rfl rfl rfl rfl hl.1 (Nat.le_of_ble_eq_true rfl) dX10_told_83 ⟨Nat.zero_le _, Nat.zero_le _⟩ (fun H locs zq75 hP hD hS => ?_)
              refine lv_if_eq (tgt := 104) hx hb dX10_told_86 (by decide) (fun c76 => ?_) (fun c76 => ?_)
              · have hf := ob_pos c76 hf
                refine lv_bipush (v := (-6 : Int32)) hx hb dX10_told_104 (by decide) ?_
                obtain rfl := Option.some.inj hf
                exact hret _ _ _ _ dX10_told_106 hP hD hS
              · have hf := ob_neg c76 hf
                refine lv_aload_n hx hb dX10_told_89 rfl (lv_at hl 0 rfl) ?_
                refine va_get (D := D) (ci := 9) (v := .ref a_heaps) (C := RX10) (T := TX10) (N := 9) hx hb hts iX10 hown hK hP 3 rfl rfl 1 (by decide) fl21 (fun _ h9 => h9) rfl dX10_told_90 ?_
                refine va_get (D := D) (ci := 2) (v := .ref a_heaps_sets) (C := RX3) (T := TX3) (N := 4) hx hb hts iX3 hown hK hP 0 rfl rfl 0 (by decide) fl86 (fun _ h9 => h9) rfl dX10_told_93 ?_
                refine lv_iload_n hx hb dX10_told_96 rfl (lv_at hl 1 rfl) ?_
                refine lv_bipush (v := (30 : Int32)) hx hb dX10_told_97 (by decide) ?_
                refine lv_isub hx hb dX10_told_99 ?_
                obtain ⟨h77, hf⟩ := og_in hf
                refine va_iald hx hb hK hP 6 0 rfl rfl h77 dX10_told_100 ?_
                refine lv_goto (tgt := 106) hx hb dX10_told_101 (by decide) ?_
                obtain rfl := Option.some.inj hf
                exact hret _ _ _ _ dX10_told_106 hP hD hS
        · have hf := ob_neg c60 hf
          refine lv_aload_n hx hb dX10_told_37 rfl (lv_at hl 0 rfl) ?_
          refine lv_iload_n hx hb dX10_told_38 rfl (lv_at hl 1 rfl) ?_
          refine lv_bipush (v := (20 : Int32)) hx hb dX10_told_39 (by decide) ?_
          refine lv_isub hx hb dX10_told_41 ?_
          obtain ⟨q78, hq78, hf⟩ := ob_bind hf
          refine k_Vz (wo := (wd_X10_told cyI cyJ cyZ a_heaps a_heaps_sets a_heaps_papers a_worths a_lines a_lines_sets a_lines_digits a_lines_fewer a_text a_text_signs a_this a_trial a_lawful a_groups a_ways a_worths_each a_worths_together v_heaps_count v_lines_count v_text_length v_seatCount v_heaps_papers v_heaps_sets v_worths_each)) (As := [.int (x1 - (20 : Int32))]) (rest := []) C (c_X10_isHeap l D cyI cyJ cyZ a_heaps a_heaps_sets a_heaps_papers a_worths a_this a_trial a_text a_lines a_lawful a_groups a_ways v_heaps_count v_seatCount (x1 - (20 : Int32)) q78 hq78) cw83 hP hD hS [0, 3] [1, 2, 4, 5, 6, 7] [6, 0, 1, 7, 2, 3, 4, 5] rfl rfl rfl (by decide) 1 (ci := 9) rfl rfl rfl rfl rfl hl.1 (Nat.le_of_ble_eq_true rfl) dX10_told_42 ⟨Nat.zero_le _, Nat.zero_le _⟩ (fun H locs zq78 hP hD hS => ?_)
          refine lv_if_eq (tgt := 63) hx hb dX10_told_45 (by decide) (fun c79 => ?_) (fun c79 => ?_)
          · have hf := ob_pos c79 hf
            refine lv_bipush (v := (-6 : Int32)) hx hb dX10_told_63 (by decide) ?_
            obtain rfl := Option.some.inj hf
            exact hret _ _ _ _ dX10_told_65 hP hD hS
          · have hf := ob_neg c79 hf
            refine lv_aload_n hx hb dX10_told_48 rfl (lv_at hl 0 rfl) ?_
            refine va_get (D := D) (ci := 9) (v := .ref a_heaps) (C := RX10) (T := TX10) (N := 9) hx hb hts iX10 hown hK hP 3 rfl rfl 1 (by decide) fl21 (fun _ h9 => h9) rfl dX10_told_49 ?_
            refine va_get (D := D) (ci := 2) (v := .ref a_heaps_papers) (C := RX3) (T := TX3) (N := 4) hx hb hts iX3 hown hK hP 0 rfl rfl 1 (by decide) fl90 (fun _ h9 => h9) rfl dX10_told_52 ?_
            refine lv_iload_n hx hb dX10_told_55 rfl (lv_at hl 1 rfl) ?_
            refine lv_bipush (v := (20 : Int32)) hx hb dX10_told_56 (by decide) ?_
            refine lv_isub hx hb dX10_told_58 ?_
            obtain ⟨h80, hf⟩ := og_in hf
            refine va_iald hx hb hK hP 5 0 rfl rfl h80 dX10_told_59 ?_
            refine lv_goto (tgt := 65) hx hb dX10_told_60 (by decide) ?_
            obtain rfl := Option.some.inj hf
            exact hret _ _ _ _ dX10_told_65 hP hD hS
    · have hf := ob_neg c41 hf
      refine lv_aload_n hx hb dX10_told_12 rfl (lv_at hl 0 rfl) ?_
      refine va_get (D := D) (ci := 9) (v := .ref a_worths) (C := RX10) (T := TX10) (N := 9) hx hb hts iX10 hown hK hP 3 rfl rfl 0 (by decide) fl10 (fun _ h9 => h9) rfl dX10_told_13 ?_
      refine va_get (D := D) (ci := 8) (v := .ref a_worths_each) (C := RX9) (T := TX9) (N := 2) hx hb hts iX9 hown hK hP 4 rfl rfl 0 (by decide) fl97 (fun _ h9 => h9) rfl dX10_told_16 ?_
      refine lv_iload_n hx hb dX10_told_19 rfl (lv_at hl 1 rfl) ?_
      refine lv_bipush (v := (10 : Int32)) hx hb dX10_told_20 (by decide) ?_
      refine lv_isub hx hb dX10_told_22 ?_
      obtain ⟨h81, hf⟩ := og_in hf
      refine va_iald hx hb hK hP 7 0 rfl rfl h81 dX10_told_23 ?_
      obtain rfl := Option.some.inj hf
      exact hret _ _ _ _ dX10_told_24 hP hD hS
