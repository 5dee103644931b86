abbrev rm_X3_append : Room := { frames := 0, cells := 0, slots := 0, locals := 0 }
abbrev wd_X3_append (cyI cyJ cyZ : ClassId) (a_this a_sets a_papers a_worths : Nat) (v_count : Int32) (v_papers : Nat → Int32) (v_sets : Nat → Int32) : va_W := [(a_this, .inr (2, [.ref a_sets, .ref a_papers, .ref a_worths, .int v_count])), (a_papers, .inl (cyI, 7, .inl v_papers)), (a_sets, .inl (cyI, 7, .inl v_sets))]
def f_X3_append (x1 : Int32) (x2 : Int32) (v_count : Int32) (v_papers : Nat → Int32) (v_sets : Nat → Int32) : Option (Int32 × (Nat → Int32) × (Nat → Int32)) := (if v_count < 0 then some (v_count, v_papers, v_sets) else (if (6 : Int32) < v_count then some (v_count, v_papers, v_sets) else (if ob_in v_count 7 = true then (if ob_in v_count 7 = true then some ((v_count + (1 : Int32)), (upd v_papers v_count.toNatClampNeg x2), (upd v_sets v_count.toNatClampNeg x1)) else none) else none)))
set_option maxHeartbeats 4000000 in
set_option maxRecDepth 100000 in
theorem c_X3_append (l : Launch) (D : va_G) (cyI cyJ cyZ : ClassId) (a_this a_sets a_papers a_worths : Nat) (v_count : Int32) (v_papers : Nat → Int32) (v_sets : Nat → Int32) (x1 : Int32) (x2 : Int32) (q : Int32 × (Nat → Int32) × (Nat → Int32)) (hf : f_X3_append x1 x2 v_count v_papers v_sets = some q) : kMv l yX3_append wsX3_append rm_X3_append D (kTy cyI cyJ cyZ) [.ref a_this, .int x1, .int x2] (wd_X3_append cyI cyJ cyZ a_this a_sets a_papers a_worths v_count v_papers v_sets) (wd_X3_append cyI cyJ cyZ a_this a_sets a_papers a_worths q.1 q.2.1 q.2.2) := by
  refine kMv_of (cc := cX3_append) (nL := 3) (own := RX3) (by decide) rfl rfl (Nat.le_of_ble_eq_true rfl) ?_
  intro p e s m below meth c A Q ls C hret hP hD hS hl
  have hl : lv_has ls 3 [(0, .ref a_this), (1, .int x1), (2, .int x2)] := hl
  unfold f_X3_append at hf
  obtain ⟨hx, hb, hml, hown, hts, hK, hA⟩ := id C
  have iX3 : ∀ w ∈ u_ws RX3 TX3 4, w ∈ wsX3_append := by decide +kernel
  have fl9 := hts (.fieldLink RX3 9 "FairSeats$Heaps" "sets" "[I") (by decide +kernel)
  have fl15 := hts (.fieldLink RX3 15 "FairSeats$Heaps" "papers" "[I") (by decide +kernel)
  have fl22 := hts (.fieldLink RX3 22 "FairSeats$Heaps" "count" "I") (by decide +kernel)
  refine lv_aload_n hx hb dX3_append_0 rfl (lv_at hl 0 rfl) ?_
  refine va_get (D := D) (ci := 2) (v := .int v_count) (C := RX3) (T := TX3) (N := 4) hx hb hts iX3 hown hK hP 0 rfl rfl 3 (by decide) fl22 (fun _ h9 => h9) rfl dX3_append_1 ?_
  refine lv_if_lt (tgt := 46) hx hb dX3_append_4 (by decide) (fun c1 => ?_) (fun c1 => ?_)
  · have hf := ob_pos c1 hf
    obtain rfl := Option.some.inj hf
    exact hret _ _ _ _ dX3_append_46 hP hD hS
  · have hf := ob_neg c1 hf
    refine lv_aload_n hx hb dX3_append_7 rfl (lv_at hl 0 rfl) ?_
    refine va_get (D := D) (ci := 2) (v := .int v_count) (C := RX3) (T := TX3) (N := 4) hx hb hts iX3 hown hK hP 0 rfl rfl 3 (by decide) fl22 (fun _ h9 => h9) rfl dX3_append_8 ?_
    refine lv_bipush (v := (6 : Int32)) hx hb dX3_append_11 (by decide) ?_
    refine lv_icmp_gt (tgt := 46) hx hb dX3_append_13 (by decide) (fun c2 => ?_) (fun c2 => ?_)
    · have hf := ob_pos c2 hf
      obtain rfl := Option.some.inj hf
      exact hret _ _ _ _ dX3_append_46 hP hD hS
    · have hf := ob_neg c2 hf
      refine lv_aload_n hx hb dX3_append_16 rfl (lv_at hl 0 rfl) ?_
      refine va_get (D := D) (ci := 2) (v := .ref a_sets) (C := RX3) (T := TX3) (N := 4) hx hb hts iX3 hown hK hP 0 rfl rfl 0 (by decide) fl9 (fun _ h9 => h9) rfl dX3_append_17 ?_
      refine lv_aload_n hx hb dX3_append_20 rfl (lv_at hl 0 rfl) ?_
      refine va_get (D := D) (ci := 2) (v := .int v_count) (C := RX3) (T := TX3) (N := 4) hx hb hts iX3 hown hK hP 0 rfl rfl 3 (by decide) fl22 (fun _ h9 => h9) rfl dX3_append_21 ?_
      refine lv_iload_n hx hb dX3_append_24 rfl (lv_at hl 1 rfl) ?_
      obtain ⟨h3, hf⟩ := og_in hf
      refine va_iast hx hb hK hP hD hS 2 0 rfl rfl h3 dX3_append_25 (fun H locs hP hD hS => ?_)
      have hP : va_P D vwCl (wd_X3_append cyI cyJ cyZ a_this a_sets a_papers a_worths v_count v_papers (upd v_sets v_count.toNatClampNeg x1)) H := hP
      have hD : va_D A (wd_X3_append cyI cyJ cyZ a_this a_sets a_papers a_worths v_count v_papers (upd v_sets v_count.toNatClampNeg x1)) := hD
      refine lv_aload_n hx hb dX3_append_26 rfl (lv_at hl 0 rfl) ?_
      refine va_get (D := D) (ci := 2) (v := .ref a_papers) (C := RX3) (T := TX3) (N := 4) hx hb hts iX3 hown hK hP 0 rfl rfl 1 (by decide) fl15 (fun _ h9 => h9) rfl dX3_append_27 ?_
      refine lv_aload_n hx hb dX3_append_30 rfl (lv_at hl 0 rfl) ?_
      refine va_get (D := D) (ci := 2) (v := .int v_count) (C := RX3) (T := TX3) (N := 4) hx hb hts iX3 hown hK hP 0 rfl rfl 3 (by decide) fl22 (fun _ h9 => h9) rfl dX3_append_31 ?_
      refine lv_iload_n hx hb dX3_append_34 rfl (lv_at hl 2 rfl) ?_
      obtain ⟨h4, hf⟩ := og_in hf
      refine va_iast hx hb hK hP hD hS 1 0 rfl rfl h4 dX3_append_35 (fun H locs hP hD hS => ?_)
      have hP : va_P D vwCl (wd_X3_append cyI cyJ cyZ a_this a_sets a_papers a_worths v_count (upd v_papers v_count.toNatClampNeg x2) (upd v_sets v_count.toNatClampNeg x1)) H := hP
      have hD : va_D A (wd_X3_append cyI cyJ cyZ a_this a_sets a_papers a_worths v_count (upd v_papers v_count.toNatClampNeg x2) (upd v_sets v_count.toNatClampNeg x1)) := hD
      refine lv_aload_n hx hb dX3_append_36 rfl (lv_at hl 0 rfl) ?_
      refine lv_dup hx hb dX3_append_37 rfl ?_
      refine va_get (D := D) (ci := 2) (v := .int v_count) (C := RX3) (T := TX3) (N := 4) hx hb hts iX3 hown hK hP 0 rfl rfl 3 (by decide) fl22 (fun _ h9 => h9) rfl dX3_append_38 ?_
      refine lv_iconst (v := (1 : Int32)) hx hb dX3_append_41 (by decide) ?_
      refine lv_iadd hx hb dX3_append_42 ?_
      refine va_put (D := D) (ci := 2) (v := .int (v_count + (1 : Int32))) (ty := .int) (C := RX3) (T := TX3) (N := 4) hx hb hts iX3 tyX3 tyX3_ok nmX3 hown hK hP hD hS 0 rfl rfl 3 (by decide) fl22 (fun _ h9 => h9) rfl (by decide +kernel) rfl rfl (Nat.le_of_ble_eq_true rfl) dX3_append_43 (fun H locs hP hD hS => ?_)
      have hP : va_P D vwCl (wd_X3_append cyI cyJ cyZ a_this a_sets a_papers a_worths (v_count + (1 : Int32)) (upd v_papers v_count.toNatClampNeg x2) (upd v_sets v_count.toNatClampNeg x1)) H := hP
      have hD : va_D A (wd_X3_append cyI cyJ cyZ a_this a_sets a_papers a_worths (v_count + (1 : Int32)) (upd v_papers v_count.toNatClampNeg x2) (upd v_sets v_count.toNatClampNeg x1)) := hD
      obtain rfl := Option.some.inj hf
      exact hret _ _ _ _ dX3_append_46 hP hD hS
abbrev rm_X3_worthOf : Room := { frames := 1, cells := 0, slots := 0, locals := 20 }
abbrev wd_X3_worthOf (cyI cyJ cyZ : ClassId) (a_this a_sets a_papers a_worths a_worths_each a_worths_together : Nat) (v_count : Int32) (v_papers : Nat → Int32) (v_sets : Nat → Int32) (v_worths_together : Nat → Int32) : va_W := [(a_this, .inr (2, [.ref a_sets, .ref a_papers, .ref a_worths, .int v_count])), (a_worths, .inr (8, [.ref a_worths_each, .ref a_worths_together])), (a_papers, .inl (cyI, 7, .inl v_papers)), (a_sets, .inl (cyI, 7, .inl v_sets)), (a_worths_together, .inl (cyI, 9, .inl v_worths_together))]
def lp_X3_worthOf_4 (y1 : Int32) (v_count : Int32) (v_papers : Nat → Int32) (v_sets : Nat → Int32) (v_worths_together : Nat → Int32) : Nat → Int32 → Int32 → Option (Int32)
  | 0, _, _ => none
  | n + 1, y2, y3 => (if v_count ≤ y3 then some y2 else (if ob_in y3 7 = true then (if ob_in y3 7 = true then (f_J6_bitCount_0f7a4 (((v_sets y3.toNatClampNeg) &&& y1) &&& (255 : Int32))).bind (fun q4 => (if ob_in q4 9 = true then lp_X3_worthOf_4 y1 v_count v_papers v_sets v_worths_together n (y2 + ((v_papers y3.toNatClampNeg) * (v_worths_together q4.toNatClampNeg))) (y3 + (1 : Int32)) else none)) else none) else none))
def f_X3_worthOf (x1 : Int32) (v_count : Int32) (v_papers : Nat → Int32) (v_sets : Nat → Int32) (v_worths_together : Nat → Int32) : Option (Int32) := (lp_X3_worthOf_4 x1 v_count v_papers v_sets v_worths_together FU (0 : Int32) (0 : Int32)).bind (fun q6 => some q6)
set_option maxHeartbeats 4000000 in
set_option maxRecDepth 100000 in
theorem wl_X3_worthOf_4 {p : Program} {l : Launch} {e : Env} {s : State} {m : MethodId} {args : Array Value} {below : List Frame} {meth : Method} {c : Code} {A : Nat → Prop} {Q : State → Prop} {D : va_G} {cyI cyJ cyZ : ClassId} {a_this a_sets a_papers a_worths a_worths_each a_worths_together : Nat} {y1 : Int32} {v_count : Int32} {v_papers : Nat → Int32} {v_sets : Nat → Int32} {v_worths_together : Nat → Int32} (C : kC p s m args c cX3_worthOf 4 RX3 wsX3_worthOf D (kTy cyI cyJ cyZ) A) :
    ∀ (n : Nat) (y2 : Int32) (y3 : Int32) (q : Int32) (H : Heap) (locs : List Loc) (ls : Array Slot), lp_X3_worthOf_4 y1 v_count v_papers v_sets v_worths_together n y2 y3 = some q → (∀ (H : Heap) (locs : List Loc) (ls : Array Slot), va_P D vwCl (wd_X3_worthOf cyI cyJ cyZ a_this a_sets a_papers a_worths a_worths_each a_worths_together v_count v_papers v_sets v_worths_together) H → va_D A (wd_X3_worthOf cyI cyJ cyZ a_this a_sets a_papers a_worths a_worths_each a_worths_together v_count v_papers v_sets v_worths_together) → va_S A s.heap H locs → lv_has ls 4 [(2, .int q)] → W p l e rm_X3_worthOf s m args below meth c H locs 0 0 Q (F0 m 51 ls [])) → va_P D vwCl (wd_X3_worthOf cyI cyJ cyZ a_this a_sets a_papers a_worths a_worths_each a_worths_together v_count v_papers v_sets v_worths_together) H → va_D A (wd_X3_worthOf cyI cyJ cyZ a_this a_sets a_papers a_worths a_worths_each a_worths_together v_count v_papers v_sets v_worths_together) → va_S A s.heap H locs → lv_has ls 4 [(0, .ref a_this), (1, .int y1), (2, .int y2), (3, .int y3)] → W p l e rm_X3_worthOf s m args below meth c H locs 0 0 Q (F0 m 4 ls []) := by
  obtain ⟨hx, hb, hml, hown, hts, hK, hA⟩ := id C
  have iX3 : ∀ w ∈ u_ws RX3 TX3 4, w ∈ wsX3_worthOf := by decide +kernel
  have iX9 : ∀ w ∈ u_ws RX9 TX9 2, w ∈ wsX3_worthOf := by decide +kernel
  have fl9 := hts (.fieldLink RX3 9 "FairSeats$Heaps" "sets" "[I") (by decide +kernel)
  have fl15 := hts (.fieldLink RX3 15 "FairSeats$Heaps" "papers" "[I") (by decide +kernel)
  have fl18 := hts (.fieldLink RX3 18 "FairSeats$Heaps" "worths" "LFairSeats$Worths;") (by decide +kernel)
  have fl22 := hts (.fieldLink RX3 22 "FairSeats$Heaps" "count" "I") (by decide +kernel)
  have fl30 := hts (.fieldLink RX3 30 "FairSeats$Worths" "together" "[I") (by decide +kernel)
  have cw35 := va_cwS (R := rm_X3_worthOf) (rm := rm_J6_bitCount_0f7a4) 1 hts gX3_worthOf_J6_bitCount_0f7a4 rfl rfl rfl (by decide +kernel) ⟨Nat.le_of_ble_eq_true rfl, Nat.le_of_ble_eq_true rfl⟩
  intro n
  induction n with
  | zero =>
    intro y2 y3 q H locs ls hf K hP hD hS hl
    rw [lp_X3_worthOf_4] at hf
    cases hf
  | succ n ih =>
    intro y2 y3 q H locs ls hf K hP hD hS hl
    rw [lp_X3_worthOf_4] at hf
    refine lv_iload_n hx hb dX3_worthOf_4 rfl (lv_at hl 3 rfl) ?_
    refine lv_aload_n hx hb dX3_worthOf_5 rfl (lv_at hl 0 rfl) ?_
    refine va_get (D := D) (ci := 2) (v := .int v_count) (C := RX3) (T := TX3) (N := 4) hx hb hts iX3 hown hK hP 0 rfl rfl 3 (by decide) fl22 (fun _ h9 => h9) rfl dX3_worthOf_6 ?_
    refine lv_icmp_ge (tgt := 51) hx hb dX3_worthOf_9 (by decide) (fun c1 => ?_) (fun c1 => ?_)
    · have hf := ob_pos c1 hf
      obtain rfl := Option.some.inj hf
      exact K _ _ _ hP hD hS (lv_sub hl [2] rfl)
    · have hf := ob_neg c1 hf
      refine lv_iload_n hx hb dX3_worthOf_12 rfl (lv_at hl 2 rfl) ?_
      refine lv_aload_n hx hb dX3_worthOf_13 rfl (lv_at hl 0 rfl) ?_
      refine va_get (D := D) (ci := 2) (v := .ref a_papers) (C := RX3) (T := TX3) (N := 4) hx hb hts iX3 hown hK hP 0 rfl rfl 1 (by decide) fl15 (fun _ h9 => h9) rfl dX3_worthOf_14 ?_
      refine lv_iload_n hx hb dX3_worthOf_17 rfl (lv_at hl 3 rfl) ?_
      obtain ⟨h2, hf⟩ := og_in hf
      refine va_iald hx hb hK hP 2 0 rfl rfl h2 dX3_worthOf_18 ?_
      refine lv_aload_n hx hb dX3_worthOf_19 rfl (lv_at hl 0 rfl) ?_
      refine va_get (D := D) (ci := 2) (v := .ref a_worths) (C := RX3) (T := TX3) (N := 4) hx hb hts iX3 hown hK hP 0 rfl rfl 2 (by decide) fl18 (fun _ h9 => h9) rfl dX3_worthOf_20 ?_
      refine va_get (D := D) (ci := 8) (v := .ref a_worths_together) (C := RX9) (T := TX9) (N := 2) hx hb hts iX9 hown hK hP 1 rfl rfl 1 (by decide) fl30 (fun _ h9 => h9) rfl dX3_worthOf_23 ?_
      refine lv_aload_n hx hb dX3_worthOf_26 rfl (lv_at hl 0 rfl) ?_
      refine va_get (D := D) (ci := 2) (v := .ref a_sets) (C := RX3) (T := TX3) (N := 4) hx hb hts iX3 hown hK hP 0 rfl rfl 0 (by decide) fl9 (fun _ h9 => h9) rfl dX3_worthOf_27 ?_
      refine lv_iload_n hx hb dX3_worthOf_30 rfl (lv_at hl 3 rfl) ?_
      obtain ⟨h3, hf⟩ := og_in hf
      refine va_iald hx hb hK hP 3 0 rfl rfl h3 dX3_worthOf_31 ?_
      refine lv_iload_n hx hb dX3_worthOf_32 rfl (lv_at hl 1 rfl) ?_
      refine lv_iand hx hb dX3_worthOf_33 ?_
      refine lv_sipush (v := (255 : Int32)) hx hb dX3_worthOf_34 (by decide) ?_
      refine lv_iand hx hb dX3_worthOf_37 ?_
      obtain ⟨q4, hq4, hf⟩ := ob_bind hf
      refine k_Si (wo := (wd_X3_worthOf cyI cyJ cyZ a_this a_sets a_papers a_worths a_worths_each a_worths_together v_count v_papers v_sets v_worths_together)) (As := [.int (((v_sets y3.toNatClampNeg) &&& y1) &&& (255 : Int32))]) (rest := [.ref a_worths_together, .int (v_papers y3.toNatClampNeg), .int y2]) C (c_J6_bitCount_0f7a4 l D cyI cyJ cyZ   (((v_sets y3.toNatClampNeg) &&& y1) &&& (255 : Int32)) q4 hq4) cw35 hP hD hS [] [0, 1, 2, 3, 4] [0, 1, 2, 3, 4] rfl rfl rfl (by decide) rfl rfl hl.1 (Nat.le_of_ble_eq_true rfl) dX3_worthOf_38 ⟨Nat.zero_le _, Nat.zero_le _⟩ (fun H locs hP hD hS => ?_)
      obtain ⟨h5, hf⟩ := og_in hf
      refine va_iald hx hb hK hP 4 0 rfl rfl h5 dX3_worthOf_41 ?_
      refine lv_imul hx hb dX3_worthOf_42 ?_
      refine lv_iadd hx hb dX3_worthOf_43 ?_
      refine lv_istore_n (lv' := [(2, .int (y2 + ((v_papers y3.toNatClampNeg) * (v_worths_together q4.toNatClampNeg)))), (0, .ref a_this), (1, .int y1), (3, .int y3)]) hx hb dX3_worthOf_44 rfl hl (by decide) rfl (fun ls hl => ?_)
      refine lv_iinc (v := (y3 + (1 : Int32))) (lv' := [(3, .int (y3 + (1 : Int32))), (2, .int (y2 + ((v_papers y3.toNatClampNeg) * (v_worths_together q4.toNatClampNeg)))), (0, .ref a_this), (1, .int y1)]) hx hb dX3_worthOf_45 hl (k := 3) rfl rfl (by decide) rfl (fun ls hl => ?_)
      refine lv_goto (tgt := 4) hx hb dX3_worthOf_48 (by decide) ?_
      exact ih (y2 + ((v_papers y3.toNatClampNeg) * (v_worths_together q4.toNatClampNeg))) (y3 + (1 : Int32)) _ _ _ _ hf K hP hD hS (lv_sub hl [2, 3, 1, 0] rfl)
set_option maxHeartbeats 4000000 in
set_option maxRecDepth 100000 in
theorem c_X3_worthOf (l : Launch) (D : va_G) (cyI cyJ cyZ : ClassId) (a_this a_sets a_papers a_worths a_worths_each a_worths_together : Nat) (v_count : Int32) (v_papers : Nat → Int32) (v_sets : Nat → Int32) (v_worths_together : Nat → Int32) (x1 : Int32) (q : Int32) (hf : f_X3_worthOf x1 v_count v_papers v_sets v_worths_together = some q) : kMi l yX3_worthOf wsX3_worthOf rm_X3_worthOf D (kTy cyI cyJ cyZ) [.ref a_this, .int x1] (wd_X3_worthOf cyI cyJ cyZ a_this a_sets a_papers a_worths a_worths_each a_worths_together v_count v_papers v_sets v_worths_together) (wd_X3_worthOf cyI cyJ cyZ a_this a_sets a_papers a_worths a_worths_each a_worths_together v_count v_papers v_sets v_worths_together) q := by
  refine kMi_of (cc := cX3_worthOf) (nL := 4) (own := RX3) (by decide) rfl rfl (Nat.le_of_ble_eq_true rfl) ?_
  intro p e s m below meth c A Q ls C hret hP hD hS hl
  have hl : lv_has ls 4 [(0, .ref a_this), (1, .int x1)] := hl
  unfold f_X3_worthOf at hf
  obtain ⟨hx, hb, hml, hown, hts, hK, hA⟩ := id C
  refine lv_iconst (v := (0 : Int32)) hx hb dX3_worthOf_0 (by decide) ?_
  refine lv_istore_n (lv' := [(2, .int (0 : Int32)), (0, .ref a_this), (1, .int x1)]) hx hb dX3_worthOf_1 rfl hl (by decide) rfl (fun ls hl => ?_)
  refine lv_iconst (v := (0 : Int32)) hx hb dX3_worthOf_2 (by decide) ?_
  refine lv_istore_n (lv' := [(3, .int (0 : Int32)), (2, .int (0 : Int32)), (0, .ref a_this), (1, .int x1)]) hx hb dX3_worthOf_3 rfl hl (by decide) rfl (fun ls hl => ?_)
  obtain ⟨q6, hq6, hf⟩ := ob_bind hf
  refine wl_X3_worthOf_4 C FU (0 : Int32) (0 : Int32) _ _ _ _ hq6 (fun H locs ls hP hD hS hl => ?_) hP hD hS (lv_sub hl [2, 3, 1, 0] rfl)
  refine lv_iload_n hx hb dX3_worthOf_51 rfl (lv_at hl 0 rfl) ?_
  obtain rfl := Option.some.inj hf
  exact hret _ _ _ _ dX3_worthOf_52 hP hD hS
abbrev rm_X3_wronged : Room := { frames := 0, cells := 0, slots := 0, locals := 0 }
abbrev wd_X3_wronged (cyI cyJ cyZ : ClassId) (a_this a_sets a_papers a_worths : Nat) (v_count : Int32) (v_papers : Nat → Int32) (v_sets : Nat → Int32) : va_W := [(a_this, .inr (2, [.ref a_sets, .ref a_papers, .ref a_worths, .int v_count])), (a_papers, .inl (cyI, 7, .inl v_papers)), (a_sets, .inl (cyI, 7, .inl v_sets))]
def lp_X3_wronged_4 (y1 : Int32) (v_count : Int32) (v_papers : Nat → Int32) (v_sets : Nat → Int32) : Nat → Int32 → Int32 → Option (Int32)
  | 0, _, _ => none
  | n + 1, y2, y3 => (if v_count ≤ y3 then some y2 else (if ob_in y3 7 = true then (if ((v_sets y3.toNatClampNeg) &&& y1) = 0 then (if ob_in y3 7 = true then lp_X3_wronged_4 y1 v_count v_papers v_sets n (y2 + (v_papers y3.toNatClampNeg)) (y3 + (1 : Int32)) else none) else lp_X3_wronged_4 y1 v_count v_papers v_sets n y2 (y3 + (1 : Int32))) else none))
def f_X3_wronged (x1 : Int32) (v_count : Int32) (v_papers : Nat → Int32) (v_sets : Nat → Int32) : Option (Int32) := (lp_X3_wronged_4 x1 v_count v_papers v_sets FU (0 : Int32) (0 : Int32)).bind (fun q5 => some q5)
set_option maxHeartbeats 4000000 in
set_option maxRecDepth 100000 in
theorem wl_X3_wronged_4 {p : Program} {l : Launch} {e : Env} {s : State} {m : MethodId} {args : Array Value} {below : List Frame} {meth : Method} {c : Code} {A : Nat → Prop} {Q : State → Prop} {D : va_G} {cyI cyJ cyZ : ClassId} {a_this a_sets a_papers a_worths : Nat} {y1 : Int32} {v_count : Int32} {v_papers : Nat → Int32} {v_sets : Nat → Int32} (C : kC p s m args c cX3_wronged 4 RX3 wsX3_wronged D (kTy cyI cyJ cyZ) A) :
    ∀ (n : Nat) (y2 : Int32) (y3 : Int32) (q : Int32) (H : Heap) (locs : List Loc) (ls : Array Slot), lp_X3_wronged_4 y1 v_count v_papers v_sets n y2 y3 = some q → (∀ (H : Heap) (locs : List Loc) (ls : Array Slot), va_P D vwCl (wd_X3_wronged cyI cyJ cyZ a_this a_sets a_papers a_worths v_count v_papers v_sets) H → va_D A (wd_X3_wronged cyI cyJ cyZ a_this a_sets a_papers a_worths v_count v_papers v_sets) → va_S A s.heap H locs → lv_has ls 4 [(2, .int q)] → W p l e rm_X3_wronged s m args below meth c H locs 0 0 Q (F0 m 38 ls [])) → va_P D vwCl (wd_X3_wronged cyI cyJ cyZ a_this a_sets a_papers a_worths v_count v_papers v_sets) H → va_D A (wd_X3_wronged cyI cyJ cyZ a_this a_sets a_papers a_worths v_count v_papers v_sets) → va_S A s.heap H locs → lv_has ls 4 [(0, .ref a_this), (1, .int y1), (2, .int y2), (3, .int y3)] → W p l e rm_X3_wronged s m args below meth c H locs 0 0 Q (F0 m 4 ls []) := by
  obtain ⟨hx, hb, hml, hown, hts, hK, hA⟩ := id C
  have iX3 : ∀ w ∈ u_ws RX3 TX3 4, w ∈ wsX3_wronged := by decide +kernel
  have fl9 := hts (.fieldLink RX3 9 "FairSeats$Heaps" "sets" "[I") (by decide +kernel)
  have fl15 := hts (.fieldLink RX3 15 "FairSeats$Heaps" "papers" "[I") (by decide +kernel)
  have fl22 := hts (.fieldLink RX3 22 "FairSeats$Heaps" "count" "I") (by decide +kernel)
  intro n
  induction n with
  | zero =>
    intro y2 y3 q H locs ls hf K hP hD hS hl
    rw [lp_X3_wronged_4] at hf
    cases hf
  | succ n ih =>
    intro y2 y3 q H locs ls hf K hP hD hS hl
    rw [lp_X3_wronged_4] at hf
    refine lv_iload_n hx hb dX3_wronged_4 rfl (lv_at hl 3 rfl) ?_
    refine lv_aload_n hx hb dX3_wronged_5 rfl (lv_at hl 0 rfl) ?_
    refine va_get (D := D) (ci := 2) (v := .int v_count) (C := RX3) (T := TX3) (N := 4) hx hb hts iX3 hown hK hP 0 rfl rfl 3 (by decide) fl22 (fun _ h9 => h9) rfl dX3_wronged_6 ?_
    refine lv_icmp_ge (tgt := 38) hx hb dX3_wronged_9 (by decide) (fun c1 => ?_) (fun c1 => ?_)
    · have hf := ob_pos c1 hf
      obtain rfl := Option.some.inj hf
      exact K _ _ _ hP hD hS (lv_sub hl [2] rfl)
    · have hf := ob_neg c1 hf
      refine lv_aload_n hx hb dX3_wronged_12 rfl (lv_at hl 0 rfl) ?_
      refine va_get (D := D) (ci := 2) (v := .ref a_sets) (C := RX3) (T := TX3) (N := 4) hx hb hts iX3 hown hK hP 0 rfl rfl 0 (by decide) fl9 (fun _ h9 => h9) rfl dX3_wronged_13 ?_
      refine lv_iload_n hx hb dX3_wronged_16 rfl (lv_at hl 3 rfl) ?_
      obtain ⟨h2, hf⟩ := og_in hf
      refine va_iald hx hb hK hP 2 0 rfl rfl h2 dX3_wronged_17 ?_
      refine lv_iload_n hx hb dX3_wronged_18 rfl (lv_at hl 1 rfl) ?_
      refine lv_iand hx hb dX3_wronged_19 ?_
      refine lv_if_ne (tgt := 32) hx hb dX3_wronged_20 (by decide) (fun c3 => ?_) (fun c3 => ?_)
      · have hf := ob_neg c3 hf
        refine lv_iinc (v := (y3 + (1 : Int32))) (lv' := [(3, .int (y3 + (1 : Int32))), (0, .ref a_this), (1, .int y1), (2, .int y2)]) hx hb dX3_wronged_32 hl (k := 3) rfl rfl (by decide) rfl (fun ls hl => ?_)
        refine lv_goto (tgt := 4) hx hb dX3_wronged_35 (by decide) ?_
        exact ih y2 (y3 + (1 : Int32)) _ _ _ _ hf K hP hD hS (lv_sub hl [1, 2, 3, 0] rfl)
      · have hf := ob_pos c3 hf
        refine lv_iload_n hx hb dX3_wronged_23 rfl (lv_at hl 2 rfl) ?_
        refine lv_aload_n hx hb dX3_wronged_24 rfl (lv_at hl 0 rfl) ?_
        refine va_get (D := D) (ci := 2) (v := .ref a_papers) (C := RX3) (T := TX3) (N := 4) hx hb hts iX3 hown hK hP 0 rfl rfl 1 (by decide) fl15 (fun _ h9 => h9) rfl dX3_wronged_25 ?_
        refine lv_iload_n hx hb dX3_wronged_28 rfl (lv_at hl 3 rfl) ?_
        obtain ⟨h4, hf⟩ := og_in hf
        refine va_iald hx hb hK hP 1 0 rfl rfl h4 dX3_wronged_29 ?_
        refine lv_iadd hx hb dX3_wronged_30 ?_
        refine lv_istore_n (lv' := [(2, .int (y2 + (v_papers y3.toNatClampNeg))), (0, .ref a_this), (1, .int y1), (3, .int y3)]) hx hb dX3_wronged_31 rfl hl (by decide) rfl (fun ls hl => ?_)
        refine lv_iinc (v := (y3 + (1 : Int32))) (lv' := [(3, .int (y3 + (1 : Int32))), (2, .int (y2 + (v_papers y3.toNatClampNeg))), (0, .ref a_this), (1, .int y1)]) hx hb dX3_wronged_32 hl (k := 3) rfl rfl (by decide) rfl (fun ls hl => ?_)
        refine lv_goto (tgt := 4) hx hb dX3_wronged_35 (by decide) ?_
        exact ih (y2 + (v_papers y3.toNatClampNeg)) (y3 + (1 : Int32)) _ _ _ _ hf K hP hD hS (lv_sub hl [2, 3, 1, 0] rfl)
set_option maxHeartbeats 4000000 in
set_option maxRecDepth 100000 in
theorem c_X3_wronged (l : Launch) (D : va_G) (cyI cyJ cyZ : ClassId) (a_this a_sets a_papers a_worths : Nat) (v_count : Int32) (v_papers : Nat → Int32) (v_sets : Nat → Int32) (x1 : Int32) (q : Int32) (hf : f_X3_wronged x1 v_count v_papers v_sets = some q) : kMi l yX3_wronged wsX3_wronged rm_X3_wronged D (kTy cyI cyJ cyZ) [.ref a_this, .int x1] (wd_X3_wronged cyI cyJ cyZ a_this a_sets a_papers a_worths v_count v_papers v_sets) (wd_X3_wronged cyI cyJ cyZ a_this a_sets a_papers a_worths v_count v_papers v_sets) q := by
  refine kMi_of (cc := cX3_wronged) (nL := 4) (own := RX3) (by decide) rfl rfl (Nat.le_of_ble_eq_true rfl) ?_
  intro p e s m below meth c A Q ls C hret hP hD hS hl
  have hl : lv_has ls 4 [(0, .ref a_this), (1, .int x1)] := hl
  unfold f_X3_wronged at hf
  obtain ⟨hx, hb, hml, hown, hts, hK, hA⟩ := id C
  refine lv_iconst (v := (0 : Int32)) hx hb dX3_wronged_0 (by decide) ?_
  refine lv_istore_n (lv' := [(2, .int (0 : Int32)), (0, .ref a_this), (1, .int x1)]) hx hb dX3_wronged_1 rfl hl (by decide) rfl (fun ls hl => ?_)
  refine lv_iconst (v := (0 : Int32)) hx hb dX3_wronged_2 (by decide) ?_
  refine lv_istore_n (lv' := [(3, .int (0 : Int32)), (2, .int (0 : Int32)), (0, .ref a_this), (1, .int x1)]) hx hb dX3_wronged_3 rfl hl (by decide) rfl (fun ls hl => ?_)
  obtain ⟨q5, hq5, hf⟩ := ob_bind hf
  refine wl_X3_wronged_4 C FU (0 : Int32) (0 : Int32) _ _ _ _ hq5 (fun H locs ls hP hD hS hl => ?_) hP hD hS (lv_sub hl [2, 3, 1, 0] rfl)
  refine lv_iload_n hx hb dX3_wronged_38 rfl (lv_at hl 0 rfl) ?_
  obtain rfl := Option.some.inj hf
  exact hret _ _ _ _ dX3_wronged_39 hP hD hS
abbrev rm_X3_tells : Room := { frames := 0, cells := 0, slots := 0, locals := 0 }
abbrev wd_X3_tells (cyI cyJ cyZ : ClassId) (a_this a_sets a_papers a_worths : Nat) (v_count : Int32) (v_sets : Nat → Int32) : va_W := [(a_this, .inr (2, [.ref a_sets, .ref a_papers, .ref a_worths, .int v_count])), (a_sets, .inl (cyI, 7, .inl v_sets))]
def f_X3_tells (x1 : Int32) (x2 : Int32) (v_sets : Nat → Int32) : Option (Int32) := (if ob_in x1 7 = true then (if (((v_sets x1.toNatClampNeg) >>> (x2 &&& 31)) &&& (1 : Int32)) = (1 : Int32) then some (1 : Int32) else some (0 : Int32)) else none)
set_option maxHeartbeats 4000000 in
set_option maxRecDepth 100000 in
theorem c_X3_tells (l : Launch) (D : va_G) (cyI cyJ cyZ : ClassId) (a_this a_sets a_papers a_worths : Nat) (v_count : Int32) (v_sets : Nat → Int32) (x1 : Int32) (x2 : Int32) (q : Int32) (hf : f_X3_tells x1 x2 v_sets = some q) : kMz l yX3_tells wsX3_tells rm_X3_tells D (kTy cyI cyJ cyZ) [.ref a_this, .int x1, .int x2] (wd_X3_tells cyI cyJ cyZ a_this a_sets a_papers a_worths v_count v_sets) (wd_X3_tells cyI cyJ cyZ a_this a_sets a_papers a_worths v_count v_sets) q := by
  refine kMz_of (cc := cX3_tells) (nL := 3) (own := RX3) (by decide) rfl rfl (Nat.le_of_ble_eq_true rfl) ?_
  intro p e s m below meth c A Q ls C hret hP hD hS hl
  have hl : lv_has ls 3 [(0, .ref a_this), (1, .int x1), (2, .int x2)] := hl
  unfold f_X3_tells at hf
  obtain ⟨hx, hb, hml, hown, hts, hK, hA⟩ := id C
  have iX3 : ∀ w ∈ u_ws RX3 TX3 4, w ∈ wsX3_tells := by decide +kernel
  have fl9 := hts (.fieldLink RX3 9 "FairSeats$Heaps" "sets" "[I") (by decide +kernel)
  refine lv_aload_n hx hb dX3_tells_0 rfl (lv_at hl 0 rfl) ?_
  refine va_get (D := D) (ci := 2) (v := .ref a_sets) (C := RX3) (T := TX3) (N := 4) hx hb hts iX3 hown hK hP 0 rfl rfl 0 (by decide) fl9 (fun _ h9 => h9) rfl dX3_tells_1 ?_
  refine lv_iload_n hx hb dX3_tells_4 rfl (lv_at hl 1 rfl) ?_
  obtain ⟨h1, hf⟩ := og_in hf
  refine va_iald hx hb hK hP 1 0 rfl rfl h1 dX3_tells_5 ?_
  refine lv_iload_n hx hb dX3_tells_6 rfl (lv_at hl 2 rfl) ?_
  refine lv_ishr hx hb dX3_tells_7 ?_
  refine lv_iconst (v := (1 : Int32)) hx hb dX3_tells_8 (by decide) ?_
  refine lv_iand hx hb dX3_tells_9 ?_
  refine lv_iconst (v := (1 : Int32)) hx hb dX3_tells_10 (by decide) ?_
  refine lv_icmp_ne (tgt := 18) hx hb dX3_tells_11 (by decide) (fun c2 => ?_) (fun c2 => ?_)
  · have hf := ob_neg c2 hf
    refine lv_iconst (v := (0 : Int32)) hx hb dX3_tells_18 (by decide) ?_
    obtain rfl := Option.some.inj hf
    exact hret _ _ _ _ narrow_b0 dX3_tells_19 hP hD hS
  · have hf := ob_pos c2 hf
    refine lv_iconst (v := (1 : Int32)) hx hb dX3_tells_14 (by decide) ?_
    refine lv_goto (tgt := 19) hx hb dX3_tells_15 (by decide) ?_
    obtain rfl := Option.some.inj hf
    exact hret _ _ _ _ narrow_b1 dX3_tells_19 hP hD hS
abbrev rm_X3_telling : Room := { frames := 1, cells := 0, slots := 0, locals := 22 }
abbrev wd_X3_telling (cyI cyJ cyZ : ClassId) (a_this a_sets a_papers a_worths : Nat) (v_count : Int32) (v_papers : Nat → Int32) (v_sets : Nat → Int32) : va_W := [(a_this, .inr (2, [.ref a_sets, .ref a_papers, .ref a_worths, .int v_count])), (a_papers, .inl (cyI, 7, .inl v_papers)), (a_sets, .inl (cyI, 7, .inl v_sets))]
def lp_X3_telling_4 (y1 : Int32) (v_count : Int32) (v_papers : Nat → Int32) (v_sets : Nat → Int32) : Nat → Int32 → Int32 → Option (Int32)
  | 0, _, _ => none
  | n + 1, y2, y3 => (if v_count ≤ y3 then some y2 else (f_X3_tells y3 y1 v_sets).bind (fun q2 => (if q2 = 0 then lp_X3_telling_4 y1 v_count v_papers v_sets n y2 (y3 + (1 : Int32)) else (if ob_in y3 7 = true then lp_X3_telling_4 y1 v_count v_papers v_sets n (y2 + (v_papers y3.toNatClampNeg)) (y3 + (1 : Int32)) else none))))
def f_X3_telling (x1 : Int32) (v_count : Int32) (v_papers : Nat → Int32) (v_sets : Nat → Int32) : Option (Int32) := (lp_X3_telling_4 x1 v_count v_papers v_sets FU (0 : Int32) (0 : Int32)).bind (fun q5 => some q5)
set_option maxHeartbeats 4000000 in
set_option maxRecDepth 100000 in
theorem wl_X3_telling_4 {p : Program} {l : Launch} {e : Env} {s : State} {m : MethodId} {args : Array Value} {below : List Frame} {meth : Method} {c : Code} {A : Nat → Prop} {Q : State → Prop} {D : va_G} {cyI cyJ cyZ : ClassId} {a_this a_sets a_papers a_worths : Nat} {y1 : Int32} {v_count : Int32} {v_papers : Nat → Int32} {v_sets : Nat → Int32} (C : kC p s m args c cX3_telling 4 RX3 wsX3_telling D (kTy cyI cyJ cyZ) A) :
    ∀ (n : Nat) (y2 : Int32) (y3 : Int32) (q : Int32) (H : Heap) (locs : List Loc) (ls : Array Slot), lp_X3_telling_4 y1 v_count v_papers v_sets n y2 y3 = some q → (∀ (H : Heap) (locs : List Loc) (ls : Array Slot), va_P D vwCl (wd_X3_telling cyI cyJ cyZ a_this a_sets a_papers a_worths v_count v_papers v_sets) H → va_D A (wd_X3_telling cyI cyJ cyZ a_this a_sets a_papers a_worths v_count v_papers v_sets) → va_S A s.heap H locs → lv_has ls 4 [(2, .int q)] → W p l e rm_X3_telling s m args below meth c H locs 0 0 Q (F0 m 36 ls [])) → va_P D vwCl (wd_X3_telling cyI cyJ cyZ a_this a_sets a_papers a_worths v_count v_papers v_sets) H → va_D A (wd_X3_telling cyI cyJ cyZ a_this a_sets a_papers a_worths v_count v_papers v_sets) → va_S A s.heap H locs → lv_has ls 4 [(0, .ref a_this), (1, .int y1), (2, .int y2), (3, .int y3)] → W p l e rm_X3_telling s m args below meth c H locs 0 0 Q (F0 m 4 ls []) := by
  obtain ⟨hx, hb, hml, hown, hts, hK, hA⟩ := id C
  have iX3 : ∀ w ∈ u_ws RX3 TX3 4, w ∈ wsX3_telling := by decide +kernel
  have fl15 := hts (.fieldLink RX3 15 "FairSeats$Heaps" "papers" "[I") (by decide +kernel)
  have fl22 := hts (.fieldLink RX3 22 "FairSeats$Heaps" "count" "I") (by decide +kernel)
  have cw26 := cwV (R := rm_X3_telling) (rm := rm_X3_tells) 2 hts gX3_telling_X3_tells rfl rfl rfl (by decide +kernel) ⟨Nat.le_of_ble_eq_true rfl, Nat.le_of_ble_eq_true rfl⟩
  intro n
  induction n with
  | zero =>
    intro y2 y3 q H locs ls hf K hP hD hS hl
    rw [lp_X3_telling_4] at hf
    cases hf
  | succ n ih =>
    intro y2 y3 q H locs ls hf K hP hD hS hl
    rw [lp_X3_telling_4] at hf
    refine lv_iload_n hx hb dX3_telling_4 rfl (lv_at hl 3 rfl) ?_
    refine lv_aload_n hx hb dX3_telling_5 rfl (lv_at hl 0 rfl) ?_
    refine va_get (D := D) (ci := 2) (v := .int v_count) (C := RX3) (T := TX3) (N := 4) hx hb hts iX3 hown hK hP 0 rfl rfl 3 (by decide) fl22 (fun _ h9 => h9) rfl dX3_telling_6 ?_
    refine lv_icmp_ge (tgt := 36) hx hb dX3_telling_9 (by decide) (fun c1 => ?_) (fun c1 => ?_)
    · have hf := ob_pos c1 hf
      obtain rfl := Option.some.inj hf
      exact K _ _ _ hP hD hS (lv_sub hl [2] rfl)
    · have hf := ob_neg c1 hf
      refine lv_aload_n hx hb dX3_telling_12 rfl (lv_at hl 0 rfl) ?_
      refine lv_iload_n hx hb dX3_telling_13 rfl (lv_at hl 3 rfl) ?_
      refine lv_iload_n hx hb dX3_telling_14 rfl (lv_at hl 1 rfl) ?_
      obtain ⟨q2, hq2, hf⟩ := ob_bind hf
      refine k_Vz (wo := (wd_X3_telling cyI cyJ cyZ a_this a_sets a_papers a_worths v_count v_papers v_sets)) (As := [.int y3, .int y1]) (rest := []) C (c_X3_tells l D cyI cyJ cyZ a_this a_sets a_papers a_worths v_count v_sets y3 y1 q2 hq2) cw26 hP hD hS [0, 2] [1] [1, 0, 2] rfl rfl rfl (by decide) 0 (ci := 2) rfl rfl rfl rfl rfl hl.1 (Nat.le_of_ble_eq_true rfl) dX3_telling_15 ⟨Nat.zero_le _, Nat.zero_le _⟩ (fun H locs zq2 hP hD hS => ?_)
      refine lv_if_eq (tgt := 30) hx hb dX3_telling_18 (by decide) (fun c3 => ?_) (fun c3 => ?_)
      · have hf := ob_pos c3 hf
        refine lv_iinc (v := (y3 + (1 : Int32))) (lv' := [(3, .int (y3 + (1 : Int32))), (0, .ref a_this), (1, .int y1), (2, .int y2)]) hx hb dX3_telling_30 hl (k := 3) rfl rfl (by decide) rfl (fun ls hl => ?_)
        refine lv_goto (tgt := 4) hx hb dX3_telling_33 (by decide) ?_
        exact ih y2 (y3 + (1 : Int32)) _ _ _ _ hf K hP hD hS (lv_sub hl [1, 2, 3, 0] rfl)
      · have hf := ob_neg c3 hf
        refine lv_iload_n hx hb dX3_telling_21 rfl (lv_at hl 2 rfl) ?_
        refine lv_aload_n hx hb dX3_telling_22 rfl (lv_at hl 0 rfl) ?_
        refine va_get (D := D) (ci := 2) (v := .ref a_papers) (C := RX3) (T := TX3) (N := 4) hx hb hts iX3 hown hK hP 0 rfl rfl 1 (by decide) fl15 (fun _ h9 => h9) rfl dX3_telling_23 ?_
        refine lv_iload_n hx hb dX3_telling_26 rfl (lv_at hl 3 rfl) ?_
        obtain ⟨h4, hf⟩ := og_in hf
        refine va_iald hx hb hK hP 1 0 rfl rfl h4 dX3_telling_27 ?_
        refine lv_iadd hx hb dX3_telling_28 ?_
        refine lv_istore_n (lv' := [(2, .int (y2 + (v_papers y3.toNatClampNeg))), (0, .ref a_this), (1, .int y1), (3, .int y3)]) hx hb dX3_telling_29 rfl hl (by decide) rfl (fun ls hl => ?_)
        refine lv_iinc (v := (y3 + (1 : Int32))) (lv' := [(3, .int (y3 + (1 : Int32))), (2, .int (y2 + (v_papers y3.toNatClampNeg))), (0, .ref a_this), (1, .int y1)]) hx hb dX3_telling_30 hl (k := 3) rfl rfl (by decide) rfl (fun ls hl => ?_)
        refine lv_goto (tgt := 4) hx hb dX3_telling_33 (by decide) ?_
        exact ih (y2 + (v_papers y3.toNatClampNeg)) (y3 + (1 : Int32)) _ _ _ _ hf K hP hD hS (lv_sub hl [2, 3, 1, 0] rfl)
set_option maxHeartbeats 4000000 in
set_option maxRecDepth 100000 in
theorem c_X3_telling (l : Launch) (D : va_G) (cyI cyJ cyZ : ClassId) (a_this a_sets a_papers a_worths : Nat) (v_count : Int32) (v_papers : Nat → Int32) (v_sets : Nat → Int32) (x1 : Int32) (q : Int32) (hf : f_X3_telling x1 v_count v_papers v_sets = some q) : kMi l yX3_telling wsX3_telling rm_X3_telling D (kTy cyI cyJ cyZ) [.ref a_this, .int x1] (wd_X3_telling cyI cyJ cyZ a_this a_sets a_papers a_worths v_count v_papers v_sets) (wd_X3_telling cyI cyJ cyZ a_this a_sets a_papers a_worths v_count v_papers v_sets) q := by
  refine kMi_of (cc := cX3_telling) (nL := 4) (own := RX3) (by decide) rfl rfl (Nat.le_of_ble_eq_true rfl) ?_
  intro p e s m below meth c A Q ls C hret hP hD hS hl
  have hl : lv_has ls 4 [(0, .ref a_this), (1, .int x1)] := hl
  unfold f_X3_telling at hf
  obtain ⟨hx, hb, hml, hown, hts, hK, hA⟩ := id C
  refine lv_iconst (v := (0 : Int32)) hx hb dX3_telling_0 (by decide) ?_
  refine lv_istore_n (lv' := [(2, .int (0 : Int32)), (0, .ref a_this), (1, .int x1)]) hx hb dX3_telling_1 rfl hl (by decide) rfl (fun ls hl => ?_)
  refine lv_iconst (v := (0 : Int32)) hx hb dX3_telling_2 (by decide) ?_
  refine lv_istore_n (lv' := [(3, .int (0 : Int32)), (2, .int (0 : Int32)), (0, .ref a_this), (1, .int x1)]) hx hb dX3_telling_3 rfl hl (by decide) rfl (fun ls hl => ?_)
  obtain ⟨q5, hq5, hf⟩ := ob_bind hf
  refine wl_X3_telling_4 C FU (0 : Int32) (0 : Int32) _ _ _ _ hq5 (fun H locs ls hP hD hS hl => ?_) hP hD hS (lv_sub hl [2, 3, 1, 0] rfl)
  refine lv_iload_n hx hb dX3_telling_36 rfl (lv_at hl 0 rfl) ?_
  obtain rfl := Option.some.inj hf
  exact hret _ _ _ _ dX3_telling_37 hP hD hS
abbrev rm_X3_total : Room := { frames := 0, cells := 0, slots := 0, locals := 0 }
abbrev wd_X3_total (cyI cyJ cyZ : ClassId) (a_this a_sets a_papers a_worths : Nat) (v_count : Int32) (v_papers : Nat → Int32) : va_W := [(a_this, .inr (2, [.ref a_sets, .ref a_papers, .ref a_worths, .int v_count])), (a_papers, .inl (cyI, 7, .inl v_papers))]
def lp_X3_total_4 (v_count : Int32) (v_papers : Nat → Int32) : Nat → Int32 → Int32 → Option (Int32)
  | 0, _, _ => none
  | n + 1, y1, y2 => (if v_count ≤ y2 then some y1 else (if ob_in y2 7 = true then lp_X3_total_4 v_count v_papers n (y1 + (v_papers y2.toNatClampNeg)) (y2 + (1 : Int32)) else none))
def f_X3_total (v_count : Int32) (v_papers : Nat → Int32) : Option (Int32) := (lp_X3_total_4 v_count v_papers FU (0 : Int32) (0 : Int32)).bind (fun q3 => some q3)
set_option maxHeartbeats 4000000 in
set_option maxRecDepth 100000 in
theorem wl_X3_total_4 {p : Program} {l : Launch} {e : Env} {s : State} {m : MethodId} {args : Array Value} {below : List Frame} {meth : Method} {c : Code} {A : Nat → Prop} {Q : State → Prop} {D : va_G} {cyI cyJ cyZ : ClassId} {a_this a_sets a_papers a_worths : Nat} {v_count : Int32} {v_papers : Nat → Int32} (C : kC p s m args c cX3_total 3 RX3 wsX3_total D (kTy cyI cyJ cyZ) A) :
    ∀ (n : Nat) (y1 : Int32) (y2 : Int32) (q : Int32) (H : Heap) (locs : List Loc) (ls : Array Slot), lp_X3_total_4 v_count v_papers n y1 y2 = some q → (∀ (H : Heap) (locs : List Loc) (ls : Array Slot), va_P D vwCl (wd_X3_total cyI cyJ cyZ a_this a_sets a_papers a_worths v_count v_papers) H → va_D A (wd_X3_total cyI cyJ cyZ a_this a_sets a_papers a_worths v_count v_papers) → va_S A s.heap H locs → lv_has ls 3 [(1, .int q)] → W p l e rm_X3_total s m args below meth c H locs 0 0 Q (F0 m 27 ls [])) → va_P D vwCl (wd_X3_total cyI cyJ cyZ a_this a_sets a_papers a_worths v_count v_papers) H → va_D A (wd_X3_total cyI cyJ cyZ a_this a_sets a_papers a_worths v_count v_papers) → va_S A s.heap H locs → lv_has ls 3 [(0, .ref a_this), (1, .int y1), (2, .int y2)] → W p l e rm_X3_total s m args below meth c H locs 0 0 Q (F0 m 4 ls []) := by
  obtain ⟨hx, hb, hml, hown, hts, hK, hA⟩ := id C
  have iX3 : ∀ w ∈ u_ws RX3 TX3 4, w ∈ wsX3_total := by decide +kernel
  have fl15 := hts (.fieldLink RX3 15 "FairSeats$Heaps" "papers" "[I") (by decide +kernel)
  have fl22 := hts (.fieldLink RX3 22 "FairSeats$Heaps" "count" "I") (by decide +kernel)
  intro n
  induction n with
  | zero =>
    intro y1 y2 q H locs ls hf K hP hD hS hl
    rw [lp_X3_total_4] at hf
    cases hf
  | succ n ih =>
    intro y1 y2 q H locs ls hf K hP hD hS hl
    rw [lp_X3_total_4] at hf
    refine lv_iload_n hx hb dX3_total_4 rfl (lv_at hl 2 rfl) ?_
    refine lv_aload_n hx hb dX3_total_5 rfl (lv_at hl 0 rfl) ?_
    refine va_get (D := D) (ci := 2) (v := .int v_count) (C := RX3) (T := TX3) (N := 4) hx hb hts iX3 hown hK hP 0 rfl rfl 3 (by decide) fl22 (fun _ h9 => h9) rfl dX3_total_6 ?_
    refine lv_icmp_ge (tgt := 27) hx hb dX3_total_9 (by decide) (fun c1 => ?_) (fun c1 => ?_)
    · have hf := ob_pos c1 hf
      obtain rfl := Option.some.inj hf
      exact K _ _ _ hP hD hS (lv_sub hl [1] rfl)
    · have hf := ob_neg c1 hf
      refine lv_iload_n hx hb dX3_total_12 rfl (lv_at hl 1 rfl) ?_
      refine lv_aload_n hx hb dX3_total_13 rfl (lv_at hl 0 rfl) ?_
      refine va_get (D := D) (ci := 2) (v := .ref a_papers) (C := RX3) (T := TX3) (N := 4) hx hb hts iX3 hown hK hP 0 rfl rfl 1 (by decide) fl15 (fun _ h9 => h9) rfl dX3_total_14 ?_
      refine lv_iload_n hx hb dX3_total_17 rfl (lv_at hl 2 rfl) ?_
      obtain ⟨h2, hf⟩ := og_in hf
      refine va_iald hx hb hK hP 1 0 rfl rfl h2 dX3_total_18 ?_
      refine lv_iadd hx hb dX3_total_19 ?_
      refine lv_istore_n (lv' := [(1, .int (y1 + (v_papers y2.toNatClampNeg))), (0, .ref a_this), (2, .int y2)]) hx hb dX3_total_20 rfl hl (by decide) rfl (fun ls hl => ?_)
      refine lv_iinc (v := (y2 + (1 : Int32))) (lv' := [(2, .int (y2 + (1 : Int32))), (1, .int (y1 + (v_papers y2.toNatClampNeg))), (0, .ref a_this)]) hx hb dX3_total_21 hl (k := 2) rfl rfl (by decide) rfl (fun ls hl => ?_)
      refine lv_goto (tgt := 4) hx hb dX3_total_24 (by decide) ?_
      exact ih (y1 + (v_papers y2.toNatClampNeg)) (y2 + (1 : Int32)) _ _ _ _ hf K hP hD hS (lv_sub hl [2, 1, 0] rfl)
set_option maxHeartbeats 4000000 in
set_option maxRecDepth 100000 in
theorem c_X3_total (l : Launch) (D : va_G) (cyI cyJ cyZ : ClassId) (a_this a_sets a_papers a_worths : Nat) (v_count : Int32) (v_papers : Nat → Int32) (q : Int32) (hf : f_X3_total v_count v_papers = some q) : kMi l yX3_total wsX3_total rm_X3_total D (kTy cyI cyJ cyZ) [.ref a_this] (wd_X3_total cyI cyJ cyZ a_this a_sets a_papers a_worths v_count v_papers) (wd_X3_total cyI cyJ cyZ a_this a_sets a_papers a_worths v_count v_papers) q := by
  refine kMi_of (cc := cX3_total) (nL := 3) (own := RX3) (by decide) rfl rfl (Nat.le_of_ble_eq_true rfl) ?_
  intro p e s m below meth c A Q ls C hret hP hD hS hl
  have hl : lv_has ls 3 [(0, .ref a_this)] := hl
  unfold f_X3_total at hf
  obtain ⟨hx, hb, hml, hown, hts, hK, hA⟩ := id C
  refine lv_iconst (v := (0 : Int32)) hx hb dX3_total_0 (by decide) ?_
  refine lv_istore_n (lv' := [(1, .int (0 : Int32)), (0, .ref a_this)]) hx hb dX3_total_1 rfl hl (by decide) rfl (fun ls hl => ?_)
  refine lv_iconst (v := (0 : Int32)) hx hb dX3_total_2 (by decide) ?_
  refine lv_istore_n (lv' := [(2, .int (0 : Int32)), (1, .int (0 : Int32)), (0, .ref a_this)]) hx hb dX3_total_3 rfl hl (by decide) rfl (fun ls hl => ?_)
  obtain ⟨q3, hq3, hf⟩ := ob_bind hf
  refine wl_X3_total_4 C FU (0 : Int32) (0 : Int32) _ _ _ _ hq3 (fun H locs ls hP hD hS hl => ?_) hP hD hS (lv_sub hl [2, 1, 0] rfl)
  refine lv_iload_n hx hb dX3_total_27 rfl (lv_at hl 0 rfl) ?_
  obtain rfl := Option.some.inj hf
  exact hret _ _ _ _ dX3_total_28 hP hD hS
abbrev rm_X3_copyOf : Room := { frames := 0, cells := 0, slots := 0, locals := 0 }
abbrev wd_X3_copyOf (cyI cyJ cyZ : ClassId) (a_H a_H_sets a_H_papers a_H_worths a_this a_sets a_papers a_worths : Nat) (v_H_count : Int32) (v_count : Int32) (v_H_papers : Nat → Int32) (v_H_sets : Nat → Int32) (v_papers : Nat → Int32) (v_sets : Nat → Int32) : va_W := [(a_H, .inr (2, [.ref a_H_sets, .ref a_H_papers, .ref a_H_worths, .int v_H_count])), (a_this, .inr (2, [.ref a_sets, .ref a_papers, .ref a_worths, .int v_count])), (a_H_papers, .inl (cyI, 7, .inl v_H_papers)), (a_H_sets, .inl (cyI, 7, .inl v_H_sets)), (a_papers, .inl (cyI, 7, .inl v_papers)), (a_sets, .inl (cyI, 7, .inl v_sets))]
def lp_X3_copyOf_2 (v_H_papers : Nat → Int32) (v_H_sets : Nat → Int32) : Nat → Int32 → (Nat → Int32) → (Nat → Int32) → Option ((Nat → Int32) × (Nat → Int32))
  | 0, _, _, _ => none
  | n + 1, y2, v_papers, v_sets => (if (6 : Int32) < y2 then some (v_papers, v_sets) else (if ob_in y2 7 = true then (if ob_in y2 7 = true then (if ob_in y2 7 = true then (if ob_in y2 7 = true then lp_X3_copyOf_2 v_H_papers v_H_sets n (y2 + (1 : Int32)) (upd v_papers y2.toNatClampNeg (v_H_papers y2.toNatClampNeg)) (upd v_sets y2.toNatClampNeg (v_H_sets y2.toNatClampNeg)) else none) else none) else none) else none))
def f_X3_copyOf (v_H_count : Int32) (v_count : Int32) (v_H_papers : Nat → Int32) (v_H_sets : Nat → Int32) (v_papers : Nat → Int32) (v_sets : Nat → Int32) : Option (Int32 × (Nat → Int32) × (Nat → Int32)) := (lp_X3_copyOf_2 v_H_papers v_H_sets FU (0 : Int32) v_papers v_sets).bind (fun q6 => some (v_H_count, q6.1, q6.2))
set_option maxHeartbeats 4000000 in
set_option maxRecDepth 100000 in
theorem wl_X3_copyOf_2 {p : Program} {l : Launch} {e : Env} {s : State} {m : MethodId} {args : Array Value} {below : List Frame} {meth : Method} {c : Code} {A : Nat → Prop} {Q : State → Prop} {D : va_G} {cyI cyJ cyZ : ClassId} {a_H a_H_sets a_H_papers a_H_worths a_this a_sets a_papers a_worths : Nat} {v_H_count : Int32} {v_count : Int32} {v_H_papers : Nat → Int32} {v_H_sets : Nat → Int32} (C : kC p s m args c cX3_copyOf 3 RX3 wsX3_copyOf D (kTy cyI cyJ cyZ) A) :
    ∀ (n : Nat) (y2 : Int32) (v_papers : Nat → Int32) (v_sets : Nat → Int32) (q : (Nat → Int32) × (Nat → Int32)) (H : Heap) (locs : List Loc) (ls : Array Slot), lp_X3_copyOf_2 v_H_papers v_H_sets n y2 v_papers v_sets = some q → (∀ (H : Heap) (locs : List Loc) (ls : Array Slot), va_P D vwCl (wd_X3_copyOf cyI cyJ cyZ a_H a_H_sets a_H_papers a_H_worths a_this a_sets a_papers a_worths v_H_count v_count v_H_papers v_H_sets q.1 q.2) H → va_D A (wd_X3_copyOf cyI cyJ cyZ a_H a_H_sets a_H_papers a_H_worths a_this a_sets a_papers a_worths v_H_count v_count v_H_papers v_H_sets q.1 q.2) → va_S A s.heap H locs → lv_has ls 3 [(0, .ref a_this), (1, .ref a_H)] → W p l e rm_X3_copyOf s m args below meth c H locs 0 0 Q (F0 m 38 ls [])) → va_P D vwCl (wd_X3_copyOf cyI cyJ cyZ a_H a_H_sets a_H_papers a_H_worths a_this a_sets a_papers a_worths v_H_count v_count v_H_papers v_H_sets v_papers v_sets) H → va_D A (wd_X3_copyOf cyI cyJ cyZ a_H a_H_sets a_H_papers a_H_worths a_this a_sets a_papers a_worths v_H_count v_count v_H_papers v_H_sets v_papers v_sets) → va_S A s.heap H locs → lv_has ls 3 [(0, .ref a_this), (1, .ref a_H), (2, .int y2)] → W p l e rm_X3_copyOf s m args below meth c H locs 0 0 Q (F0 m 2 ls []) := by
  obtain ⟨hx, hb, hml, hown, hts, hK, hA⟩ := id C
  have iX3 : ∀ w ∈ u_ws RX3 TX3 4, w ∈ wsX3_copyOf := by decide +kernel
  have fl9 := hts (.fieldLink RX3 9 "FairSeats$Heaps" "sets" "[I") (by decide +kernel)
  have fl15 := hts (.fieldLink RX3 15 "FairSeats$Heaps" "papers" "[I") (by decide +kernel)
  intro n
  induction n with
  | zero =>
    intro y2 v_papers v_sets q H locs ls hf K hP hD hS hl
    rw [lp_X3_copyOf_2] at hf
    cases hf
  | succ n ih =>
    intro y2 v_papers v_sets q H locs ls hf K hP hD hS hl
    rw [lp_X3_copyOf_2] at hf
    refine lv_iload_n hx hb dX3_copyOf_2 rfl (lv_at hl 2 rfl) ?_
    refine lv_bipush (v := (6 : Int32)) hx hb dX3_copyOf_3 (by decide) ?_
    refine lv_icmp_gt (tgt := 38) hx hb dX3_copyOf_5 (by decide) (fun c1 => ?_) (fun c1 => ?_)
    · have hf := ob_pos c1 hf
      obtain rfl := Option.some.inj hf
      exact K _ _ _ hP hD hS (lv_sub hl [0, 1] rfl)
    · have hf := ob_neg c1 hf
      refine lv_aload_n hx hb dX3_copyOf_8 rfl (lv_at hl 0 rfl) ?_
      refine va_get (D := D) (ci := 2) (v := .ref a_sets) (C := RX3) (T := TX3) (N := 4) hx hb hts iX3 hown hK hP 1 rfl rfl 0 (by decide) fl9 (fun _ h9 => h9) rfl dX3_copyOf_9 ?_
      refine lv_iload_n hx hb dX3_copyOf_12 rfl (lv_at hl 2 rfl) ?_
      refine lv_aload_n hx hb dX3_copyOf_13 rfl (lv_at hl 1 rfl) ?_
      refine va_get (D := D) (ci := 2) (v := .ref a_H_sets) (C := RX3) (T := TX3) (N := 4) hx hb hts iX3 hown hK hP 0 rfl rfl 0 (by decide) fl9 (fun _ h9 => h9) rfl dX3_copyOf_14 ?_
      refine lv_iload_n hx hb dX3_copyOf_17 rfl (lv_at hl 2 rfl) ?_
      obtain ⟨h2, hf⟩ := og_in hf
      refine va_iald hx hb hK hP 3 0 rfl rfl h2 dX3_copyOf_18 ?_
      obtain ⟨h3, hf⟩ := og_in hf
      refine va_iast hx hb hK hP hD hS 5 0 rfl rfl h3 dX3_copyOf_19 (fun H locs hP hD hS => ?_)
      have hP : va_P D vwCl (wd_X3_copyOf cyI cyJ cyZ a_H a_H_sets a_H_papers a_H_worths a_this a_sets a_papers a_worths v_H_count v_count v_H_papers v_H_sets v_papers (upd v_sets y2.toNatClampNeg (v_H_sets y2.toNatClampNeg))) H := hP
      have hD : va_D A (wd_X3_copyOf cyI cyJ cyZ a_H a_H_sets a_H_papers a_H_worths a_this a_sets a_papers a_worths v_H_count v_count v_H_papers v_H_sets v_papers (upd v_sets y2.toNatClampNeg (v_H_sets y2.toNatClampNeg))) := hD
      refine lv_aload_n hx hb dX3_copyOf_20 rfl (lv_at hl 0 rfl) ?_
      refine va_get (D := D) (ci := 2) (v := .ref a_papers) (C := RX3) (T := TX3) (N := 4) hx hb hts iX3 hown hK hP 1 rfl rfl 1 (by decide) fl15 (fun _ h9 => h9) rfl dX3_copyOf_21 ?_
      refine lv_iload_n hx hb dX3_copyOf_24 rfl (lv_at hl 2 rfl) ?_
      refine lv_aload_n hx hb dX3_copyOf_25 rfl (lv_at hl 1 rfl) ?_
      refine va_get (D := D) (ci := 2) (v := .ref a_H_papers) (C := RX3) (T := TX3) (N := 4) hx hb hts iX3 hown hK hP 0 rfl rfl 1 (by decide) fl15 (fun _ h9 => h9) rfl dX3_copyOf_26 ?_
      refine lv_iload_n hx hb dX3_copyOf_29 rfl (lv_at hl 2 rfl) ?_
      obtain ⟨h4, hf⟩ := og_in hf
      refine va_iald hx hb hK hP 2 0 rfl rfl h4 dX3_copyOf_30 ?_
      obtain ⟨h5, hf⟩ := og_in hf
      refine va_iast hx hb hK hP hD hS 4 0 rfl rfl h5 dX3_copyOf_31 (fun H locs hP hD hS => ?_)
      have hP : va_P D vwCl (wd_X3_copyOf cyI cyJ cyZ a_H a_H_sets a_H_papers a_H_worths a_this a_sets a_papers a_worths v_H_count v_count v_H_papers v_H_sets (upd v_papers y2.toNatClampNeg (v_H_papers y2.toNatClampNeg)) (upd v_sets y2.toNatClampNeg (v_H_sets y2.toNatClampNeg))) H := hP
      have hD : va_D A (wd_X3_copyOf cyI cyJ cyZ a_H a_H_sets a_H_papers a_H_worths a_this a_sets a_papers a_worths v_H_count v_count v_H_papers v_H_sets (upd v_papers y2.toNatClampNeg (v_H_papers y2.toNatClampNeg)) (upd v_sets y2.toNatClampNeg (v_H_sets y2.toNatClampNeg))) := hD
      refine lv_iinc (v := (y2 + (1 : Int32))) (lv' := [(2, .int (y2 + (1 : Int32))), (0, .ref a_this), (1, .ref a_H)]) hx hb dX3_copyOf_32 hl (k := 2) rfl rfl (by decide) rfl (fun ls hl => ?_)
      refine lv_goto (tgt := 2) hx hb dX3_copyOf_35 (by decide) ?_
      exact ih (y2 + (1 : Int32)) (upd v_papers y2.toNatClampNeg (v_H_papers y2.toNatClampNeg)) (upd v_sets y2.toNatClampNeg (v_H_sets y2.toNatClampNeg)) _ _ _ _ hf K hP hD hS (lv_sub hl [1, 2, 0] rfl)
set_option maxHeartbeats 4000000 in
set_option maxRecDepth 100000 in
theorem c_X3_copyOf (l : Launch) (D : va_G) (cyI cyJ cyZ : ClassId) (a_H a_H_sets a_H_papers a_H_worths a_this a_sets a_papers a_worths : Nat) (v_H_count : Int32) (v_count : Int32) (v_H_papers : Nat → Int32) (v_H_sets : Nat → Int32) (v_papers : Nat → Int32) (v_sets : Nat → Int32) (q : Int32 × (Nat → Int32) × (Nat → Int32)) (hf : f_X3_copyOf v_H_count v_count v_H_papers v_H_sets v_papers v_sets = some q) : kMv l yX3_copyOf wsX3_copyOf rm_X3_copyOf D (kTy cyI cyJ cyZ) [.ref a_this, .ref a_H] (wd_X3_copyOf cyI cyJ cyZ a_H a_H_sets a_H_papers a_H_worths a_this a_sets a_papers a_worths v_H_count v_count v_H_papers v_H_sets v_papers v_sets) (wd_X3_copyOf cyI cyJ cyZ a_H a_H_sets a_H_papers a_H_worths a_this a_sets a_papers a_worths v_H_count q.1 v_H_papers v_H_sets q.2.1 q.2.2) := by
  refine kMv_of (cc := cX3_copyOf) (nL := 3) (own := RX3) (by decide) rfl rfl (Nat.le_of_ble_eq_true rfl) ?_
  intro p e s m below meth c A Q ls C hret hP hD hS hl
  have hl : lv_has ls 3 [(0, .ref a_this), (1, .ref a_H)] := hl
  unfold f_X3_copyOf at hf
  obtain ⟨hx, hb, hml, hown, hts, hK, hA⟩ := id C
  have iX3 : ∀ w ∈ u_ws RX3 TX3 4, w ∈ wsX3_copyOf := by decide +kernel
  have fl22 := hts (.fieldLink RX3 22 "FairSeats$Heaps" "count" "I") (by decide +kernel)
  refine lv_iconst (v := (0 : Int32)) hx hb dX3_copyOf_0 (by decide) ?_
  refine lv_istore_n (lv' := [(2, .int (0 : Int32)), (0, .ref a_this), (1, .ref a_H)]) hx hb dX3_copyOf_1 rfl hl (by decide) rfl (fun ls hl => ?_)
  obtain ⟨q6, hq6, hf⟩ := ob_bind hf
  refine wl_X3_copyOf_2 C FU (0 : Int32) v_papers v_sets _ _ _ _ hq6 (fun H locs ls hP hD hS hl => ?_) hP hD hS (lv_sub hl [1, 2, 0] rfl)
  refine lv_aload_n hx hb dX3_copyOf_38 rfl (lv_at hl 0 rfl) ?_
  refine lv_aload_n hx hb dX3_copyOf_39 rfl (lv_at hl 1 rfl) ?_
  refine va_get (D := D) (ci := 2) (v := .int v_H_count) (C := RX3) (T := TX3) (N := 4) hx hb hts iX3 hown hK hP 0 rfl rfl 3 (by decide) fl22 (fun _ h9 => h9) rfl dX3_copyOf_40 ?_
  refine va_put (D := D) (ci := 2) (v := .int v_H_count) (ty := .int) (C := RX3) (T := TX3) (N := 4) hx hb hts iX3 tyX3 tyX3_ok nmX3 hown hK hP hD hS 1 rfl rfl 3 (by decide) fl22 (fun _ h9 => h9) rfl (by decide +kernel) rfl rfl (Nat.le_of_ble_eq_true rfl) dX3_copyOf_43 (fun H locs hP hD hS => ?_)
  have hP : va_P D vwCl (wd_X3_copyOf cyI cyJ cyZ a_H a_H_sets a_H_papers a_H_worths a_this a_sets a_papers a_worths v_H_count v_H_count v_H_papers v_H_sets q6.1 q6.2) H := hP
  have hD : va_D A (wd_X3_copyOf cyI cyJ cyZ a_H a_H_sets a_H_papers a_H_worths a_this a_sets a_papers a_worths v_H_count v_H_count v_H_papers v_H_sets q6.1 q6.2) := hD
  obtain rfl := Option.some.inj hf
  exact hret _ _ _ _ dX3_copyOf_46 hP hD hS
abbrev rm_X3_moveToLast : Room := { frames := 0, cells := 0, slots := 0, locals := 0 }
abbrev wd_X3_moveToLast (cyI cyJ cyZ : ClassId) (a_this a_sets a_papers a_worths : Nat) (v_count : Int32) (v_papers : Nat → Int32) : va_W := [(a_this, .inr (2, [.ref a_sets, .ref a_papers, .ref a_worths, .int v_count])), (a_papers, .inl (cyI, 7, .inl v_papers))]
def f_X3_moveToLast (x1 : Int32) (v_count : Int32) (v_papers : Nat → Int32) : Option ((Nat → Int32)) := (if x1 < 0 then some v_papers else (if (v_count - (1 : Int32)) ≤ x1 then some v_papers else (if (7 : Int32) < v_count then some v_papers else (if ob_in x1 7 = true then (if (v_papers x1.toNatClampNeg) ≤ 0 then some v_papers else (if ob_in x1 7 = true then (if ob_in x1 7 = true then (if ob_in (v_count - (1 : Int32)) 7 = true then (if ob_in (v_count - (1 : Int32)) 7 = true then some (upd (upd v_papers x1.toNatClampNeg ((v_papers x1.toNatClampNeg) - (1 : Int32))) (v_count - (1 : Int32)).toNatClampNeg (((upd v_papers x1.toNatClampNeg ((v_papers x1.toNatClampNeg) - (1 : Int32))) (v_count - (1 : Int32)).toNatClampNeg) + (1 : Int32))) else none) else none) else none) else none)) else none))))
set_option maxHeartbeats 4000000 in
set_option maxRecDepth 100000 in
theorem c_X3_moveToLast (l : Launch) (D : va_G) (cyI cyJ cyZ : ClassId) (a_this a_sets a_papers a_worths : Nat) (v_count : Int32) (v_papers : Nat → Int32) (x1 : Int32) (q : (Nat → Int32)) (hf : f_X3_moveToLast x1 v_count v_papers = some q) : kMv l yX3_moveToLast wsX3_moveToLast rm_X3_moveToLast D (kTy cyI cyJ cyZ) [.ref a_this, .int x1] (wd_X3_moveToLast cyI cyJ cyZ a_this a_sets a_papers a_worths v_count v_papers) (wd_X3_moveToLast cyI cyJ cyZ a_this a_sets a_papers a_worths v_count q) := by
  refine kMv_of (cc := cX3_moveToLast) (nL := 2) (own := RX3) (by decide) rfl rfl (Nat.le_of_ble_eq_true rfl) ?_
  intro p e s m below meth c A Q ls C hret hP hD hS hl
  have hl : lv_has ls 2 [(0, .ref a_this), (1, .int x1)] := hl
  unfold f_X3_moveToLast at hf
  obtain ⟨hx, hb, hml, hown, hts, hK, hA⟩ := id C
  have iX3 : ∀ w ∈ u_ws RX3 TX3 4, w ∈ wsX3_moveToLast := by decide +kernel
  have fl15 := hts (.fieldLink RX3 15 "FairSeats$Heaps" "papers" "[I") (by decide +kernel)
  have fl22 := hts (.fieldLink RX3 22 "FairSeats$Heaps" "count" "I") (by decide +kernel)
  refine lv_iload_n hx hb dX3_moveToLast_0 rfl (lv_at hl 1 rfl) ?_
  refine lv_if_lt (tgt := 57) hx hb dX3_moveToLast_1 (by decide) (fun c1 => ?_) (fun c1 => ?_)
  · have hf := ob_pos c1 hf
    obtain rfl := Option.some.inj hf
    exact hret _ _ _ _ dX3_moveToLast_57 hP hD hS
  · have hf := ob_neg c1 hf
    refine lv_iload_n hx hb dX3_moveToLast_4 rfl (lv_at hl 1 rfl) ?_
    refine lv_aload_n hx hb dX3_moveToLast_5 rfl (lv_at hl 0 rfl) ?_
    refine va_get (D := D) (ci := 2) (v := .int v_count) (C := RX3) (T := TX3) (N := 4) hx hb hts iX3 hown hK hP 0 rfl rfl 3 (by decide) fl22 (fun _ h9 => h9) rfl dX3_moveToLast_6 ?_
    refine lv_iconst (v := (1 : Int32)) hx hb dX3_moveToLast_9 (by decide) ?_
    refine lv_isub hx hb dX3_moveToLast_10 ?_
    refine lv_icmp_ge (tgt := 57) hx hb dX3_moveToLast_11 (by decide) (fun c2 => ?_) (fun c2 => ?_)
    · have hf := ob_pos c2 hf
      obtain rfl := Option.some.inj hf
      exact hret _ _ _ _ dX3_moveToLast_57 hP hD hS
    · have hf := ob_neg c2 hf
      refine lv_aload_n hx hb dX3_moveToLast_14 rfl (lv_at hl 0 rfl) ?_
      refine va_get (D := D) (ci := 2) (v := .int v_count) (C := RX3) (T := TX3) (N := 4) hx hb hts iX3 hown hK hP 0 rfl rfl 3 (by decide) fl22 (fun _ h9 => h9) rfl dX3_moveToLast_15 ?_
      refine lv_bipush (v := (7 : Int32)) hx hb dX3_moveToLast_18 (by decide) ?_
      refine lv_icmp_gt (tgt := 57) hx hb dX3_moveToLast_20 (by decide) (fun c3 => ?_) (fun c3 => ?_)
      · have hf := ob_pos c3 hf
        obtain rfl := Option.some.inj hf
        exact hret _ _ _ _ dX3_moveToLast_57 hP hD hS
      · have hf := ob_neg c3 hf
        refine lv_aload_n hx hb dX3_moveToLast_23 rfl (lv_at hl 0 rfl) ?_
        refine va_get (D := D) (ci := 2) (v := .ref a_papers) (C := RX3) (T := TX3) (N := 4) hx hb hts iX3 hown hK hP 0 rfl rfl 1 (by decide) fl15 (fun _ h9 => h9) rfl dX3_moveToLast_24 ?_
        refine lv_iload_n hx hb dX3_moveToLast_27 rfl (lv_at hl 1 rfl) ?_
        obtain ⟨h4, hf⟩ := og_in hf
        refine va_iald hx hb hK hP 1 0 rfl rfl h4 dX3_moveToLast_28 ?_
        refine lv_if_le (tgt := 57) hx hb dX3_moveToLast_29 (by decide) (fun c5 => ?_) (fun c5 => ?_)
        · have hf := ob_pos c5 hf
          obtain rfl := Option.some.inj hf
          exact hret _ _ _ _ dX3_moveToLast_57 hP hD hS
        · have hf := ob_neg c5 hf
          refine lv_aload_n hx hb dX3_moveToLast_32 rfl (lv_at hl 0 rfl) ?_
          refine va_get (D := D) (ci := 2) (v := .ref a_papers) (C := RX3) (T := TX3) (N := 4) hx hb hts iX3 hown hK hP 0 rfl rfl 1 (by decide) fl15 (fun _ h9 => h9) rfl dX3_moveToLast_33 ?_
          refine lv_iload_n hx hb dX3_moveToLast_36 rfl (lv_at hl 1 rfl) ?_
          refine lv_dup2_11 hx hb dX3_moveToLast_37 rfl rfl ?_
          obtain ⟨h6, hf⟩ := og_in hf
          refine va_iald hx hb hK hP 1 0 rfl rfl h6 dX3_moveToLast_38 ?_
          refine lv_iconst (v := (1 : Int32)) hx hb dX3_moveToLast_39 (by decide) ?_
          refine lv_isub hx hb dX3_moveToLast_40 ?_
          obtain ⟨h7, hf⟩ := og_in hf
          refine va_iast hx hb hK hP hD hS 1 0 rfl rfl h7 dX3_moveToLast_41 (fun H locs hP hD hS => ?_)
          have hP : va_P D vwCl (wd_X3_moveToLast cyI cyJ cyZ a_this a_sets a_papers a_worths v_count (upd v_papers x1.toNatClampNeg ((v_papers x1.toNatClampNeg) - (1 : Int32)))) H := hP
          have hD : va_D A (wd_X3_moveToLast cyI cyJ cyZ a_this a_sets a_papers a_worths v_count (upd v_papers x1.toNatClampNeg ((v_papers x1.toNatClampNeg) - (1 : Int32)))) := hD
          refine lv_aload_n hx hb dX3_moveToLast_42 rfl (lv_at hl 0 rfl) ?_
          refine va_get (D := D) (ci := 2) (v := .ref a_papers) (C := RX3) (T := TX3) (N := 4) hx hb hts iX3 hown hK hP 0 rfl rfl 1 (by decide) fl15 (fun _ h9 => h9) rfl dX3_moveToLast_43 ?_
          refine lv_aload_n hx hb dX3_moveToLast_46 rfl (lv_at hl 0 rfl) ?_
          refine va_get (D := D) (ci := 2) (v := .int v_count) (C := RX3) (T := TX3) (N := 4) hx hb hts iX3 hown hK hP 0 rfl rfl 3 (by decide) fl22 (fun _ h9 => h9) rfl dX3_moveToLast_47 ?_
          refine lv_iconst (v := (1 : Int32)) hx hb dX3_moveToLast_50 (by decide) ?_
          refine lv_isub hx hb dX3_moveToLast_51 ?_
          refine lv_dup2_11 hx hb dX3_moveToLast_52 rfl rfl ?_
          obtain ⟨h8, hf⟩ := og_in hf
          refine va_iald hx hb hK hP 1 0 rfl rfl h8 dX3_moveToLast_53 ?_
          refine lv_iconst (v := (1 : Int32)) hx hb dX3_moveToLast_54 (by decide) ?_
          refine lv_iadd hx hb dX3_moveToLast_55 ?_
          obtain ⟨h9, hf⟩ := og_in hf
          refine va_iast hx hb hK hP hD hS 1 0 rfl rfl h9 dX3_moveToLast_56 (fun H locs hP hD hS => ?_)
          have hP : va_P D vwCl (wd_X3_moveToLast cyI cyJ cyZ a_this a_sets a_papers a_worths v_count (upd (upd v_papers x1.toNatClampNeg ((v_papers x1.toNatClampNeg) - (1 : Int32))) (v_count - (1 : Int32)).toNatClampNeg (((upd v_papers x1.toNatClampNeg ((v_papers x1.toNatClampNeg) - (1 : Int32))) (v_count - (1 : Int32)).toNatClampNeg) + (1 : Int32)))) H := hP
          have hD : va_D A (wd_X3_moveToLast cyI cyJ cyZ a_this a_sets a_papers a_worths v_count (upd (upd v_papers x1.toNatClampNeg ((v_papers x1.toNatClampNeg) - (1 : Int32))) (v_count - (1 : Int32)).toNatClampNeg (((upd v_papers x1.toNatClampNeg ((v_papers x1.toNatClampNeg) - (1 : Int32))) (v_count - (1 : Int32)).toNatClampNeg) + (1 : Int32)))) := hD
          obtain rfl := Option.some.inj hf
          exact hret _ _ _ _ dX3_moveToLast_57 hP hD hS
