abbrev rm_X1_begin_X5 : Room := { frames := 0, cells := 0, slots := 0, locals := 0 }
abbrev wd_X1_begin_X5 (cyI cyJ cyZ : ClassId) (a_this a_upper : Nat) (v_lower : Int64) (v_upper : Nat → Int64) : va_W := [(a_this, .inr (4, [.ref a_upper, .long v_lower])), (a_upper, .inl (cyJ, 7, .inr (.inl v_upper)))]
def lp_X1_begin_X5_2 (y1 : Int32) : Nat → Int32 → (Nat → Int64) → Option ((Nat → Int64))
  | 0, _, _ => none
  | n + 1, y2, v_upper => (if (6 : Int32) < y2 then some v_upper else (if ob_in y2 7 = true then lp_X1_begin_X5_2 y1 n (y2 + (1 : Int32)) (vp_updL v_upper y2.toNatClampNeg ((y1).toInt64)) else none))
def f_X1_begin_X5 (x1 : Int32) (v_lower : Int64) (v_upper : Nat → Int64) : Option (Int64 × (Nat → Int64)) := (lp_X1_begin_X5_2 x1 FU (0 : Int32) v_upper).bind (fun q3 => some ((1 : Int64), q3))
set_option maxHeartbeats 4000000 in
set_option maxRecDepth 100000 in
theorem wl_X1_begin_X5_2 {p : Program} {l : Launch} {e : Env} {s : State} {m : MethodId} {args : Array Value} {below : List Frame} {meth : Method} {c : Code} {A : Nat → Prop} {Q : State → Prop} {D : va_G} {cyI cyJ cyZ : ClassId} {a_this a_upper : Nat} {y1 : Int32} {v_lower : Int64} (C : kC p s m args c cX1_begin 3 RX1 wsX1_begin D (kTy cyI cyJ cyZ) A) :
    ∀ (n : Nat) (y2 : Int32) (v_upper : Nat → Int64) (q : (Nat → Int64)) (H : Heap) (locs : List Loc) (ls : Array Slot), lp_X1_begin_X5_2 y1 n y2 v_upper = some q → (∀ (H : Heap) (locs : List Loc) (ls : Array Slot), va_P D vwCl (wd_X1_begin_X5 cyI cyJ cyZ a_this a_upper v_lower q) H → va_D A (wd_X1_begin_X5 cyI cyJ cyZ a_this a_upper v_lower q) → va_S A s.heap H locs → lv_has ls 3 [(0, .ref a_this)] → W p l e rm_X1_begin_X5 s m args below meth c H locs 0 0 Q (F0 m 22 ls [])) → va_P D vwCl (wd_X1_begin_X5 cyI cyJ cyZ a_this a_upper v_lower v_upper) H → va_D A (wd_X1_begin_X5 cyI cyJ cyZ a_this a_upper v_lower v_upper) → va_S A s.heap H locs → lv_has ls 3 [(0, .ref a_this), (1, .int y1), (2, .int y2)] → W p l e rm_X1_begin_X5 s m args below meth c H locs 0 0 Q (F0 m 2 ls []) := by
  obtain ⟨hx, hb, hml, hown, hts, hK, hA⟩ := id C
  have iX5 : ∀ w ∈ u_ws RX5 TX5 2, w ∈ wsX1_begin := by decide +kernel
  have fl9 := hts (.fieldLink RX1 9 "FairSeats$Fractions" "upper" "[J") (by decide +kernel)
  intro n
  induction n with
  | zero =>
    intro y2 v_upper q H locs ls hf K hP hD hS hl
    rw [lp_X1_begin_X5_2] at hf
    cases hf
  | succ n ih =>
    intro y2 v_upper q H locs ls hf K hP hD hS hl
    rw [lp_X1_begin_X5_2] at hf
    refine lv_iload_n hx hb dX1_begin_2 rfl (lv_at hl 2 rfl) ?_
    refine lv_bipush (v := (6 : Int32)) hx hb dX1_begin_3 (by decide) ?_
    refine lv_icmp_gt (tgt := 22) hx hb dX1_begin_5 (by decide) (fun c1 => ?_) (fun c1 => ?_)
    · have hf := ob_pos c1 hf
      obtain rfl := Option.some.inj hf
      exact K _ _ _ hP hD hS (lv_sub hl [0] rfl)
    · have hf := ob_neg c1 hf
      refine lv_aload_n hx hb dX1_begin_8 rfl (lv_at hl 0 rfl) ?_
      refine va_get (D := D) (ci := 4) (v := .ref a_upper) (C := RX5) (T := TX5) (N := 2) hx hb hts iX5 hown hK hP 0 rfl rfl 0 (by decide) fl9 (fun _ h9 => h9) rfl dX1_begin_9 ?_
      refine lv_iload_n hx hb dX1_begin_12 rfl (lv_at hl 2 rfl) ?_
      refine lv_iload_n hx hb dX1_begin_13 rfl (lv_at hl 1 rfl) ?_
      refine lv_i2l (v := (y1).toInt64) hx hb dX1_begin_14 rfl ?_
      obtain ⟨h2, hf⟩ := og_in hf
      refine va_last hx hb hK hP hD hS 1 1 rfl rfl h2 dX1_begin_15 (fun H locs hP hD hS => ?_)
      have hP : va_P D vwCl (wd_X1_begin_X5 cyI cyJ cyZ a_this a_upper v_lower (vp_updL v_upper y2.toNatClampNeg ((y1).toInt64))) H := hP
      have hD : va_D A (wd_X1_begin_X5 cyI cyJ cyZ a_this a_upper v_lower (vp_updL v_upper y2.toNatClampNeg ((y1).toInt64))) := hD
      refine lv_iinc (v := (y2 + (1 : Int32))) (lv' := [(2, .int (y2 + (1 : Int32))), (0, .ref a_this), (1, .int y1)]) hx hb dX1_begin_16 hl (k := 2) rfl rfl (by decide) rfl (fun ls hl => ?_)
      refine lv_goto (tgt := 2) hx hb dX1_begin_19 (by decide) ?_
      exact ih (y2 + (1 : Int32)) (vp_updL v_upper y2.toNatClampNeg ((y1).toInt64)) _ _ _ _ hf K hP hD hS (lv_sub hl [1, 2, 0] rfl)
set_option maxHeartbeats 4000000 in
set_option maxRecDepth 100000 in
theorem c_X1_begin_X5 (l : Launch) (D : va_G) (cyI cyJ cyZ : ClassId) (a_this a_upper : Nat) (v_lower : Int64) (v_upper : Nat → Int64) (x1 : Int32) (q : Int64 × (Nat → Int64)) (hf : f_X1_begin_X5 x1 v_lower v_upper = some q) : kMv l yX1_begin wsX1_begin rm_X1_begin_X5 D (kTy cyI cyJ cyZ) [.ref a_this, .int x1] (wd_X1_begin_X5 cyI cyJ cyZ a_this a_upper v_lower v_upper) (wd_X1_begin_X5 cyI cyJ cyZ a_this a_upper q.1 q.2) := by
  refine kMv_of (cc := cX1_begin) (nL := 3) (own := RX1) (by decide) rfl rfl (Nat.le_of_ble_eq_true rfl) ?_
  intro p e s m below meth c A Q ls C hret hP hD hS hl
  have hl : lv_has ls 3 [(0, .ref a_this), (1, .int x1)] := hl
  unfold f_X1_begin_X5 at hf
  obtain ⟨hx, hb, hml, hown, hts, hK, hA⟩ := id C
  have iX5 : ∀ w ∈ u_ws RX5 TX5 2, w ∈ wsX1_begin := by decide +kernel
  have fl15 := hts (.fieldLink RX1 15 "FairSeats$Fractions" "lower" "J") (by decide +kernel)
  refine lv_iconst (v := (0 : Int32)) hx hb dX1_begin_0 (by decide) ?_
  refine lv_istore_n (lv' := [(2, .int (0 : Int32)), (0, .ref a_this), (1, .int x1)]) hx hb dX1_begin_1 rfl hl (by decide) rfl (fun ls hl => ?_)
  obtain ⟨q3, hq3, hf⟩ := ob_bind hf
  refine wl_X1_begin_X5_2 C FU (0 : Int32) v_upper _ _ _ _ hq3 (fun H locs ls hP hD hS hl => ?_) hP hD hS (lv_sub hl [1, 2, 0] rfl)
  refine lv_aload_n hx hb dX1_begin_22 rfl (lv_at hl 0 rfl) ?_
  refine lv_lconst (v := 1) hx hb dX1_begin_23 (by decide) ?_
  refine va_put (D := D) (ci := 4) (v := .long (1 : Int64)) (ty := .long) (C := RX5) (T := TX5) (N := 2) hx hb hts iX5 tyX5 tyX5_ok nmX5 hown hK hP hD hS 0 rfl rfl 1 (by decide) fl15 (fun _ h9 => h9) rfl (by decide +kernel) rfl rfl (Nat.le_of_ble_eq_true rfl) dX1_begin_24 (fun H locs hP hD hS => ?_)
  have hP : va_P D vwCl (wd_X1_begin_X5 cyI cyJ cyZ a_this a_upper (1 : Int64) q3) H := hP
  have hD : va_D A (wd_X1_begin_X5 cyI cyJ cyZ a_this a_upper (1 : Int64) q3) := hD
  obtain rfl := Option.some.inj hf
  exact hret _ _ _ _ dX1_begin_27 hP hD hS
abbrev rm_X1_sumOf_X5 : Room := { frames := 1, cells := 0, slots := 0, locals := 22 }
abbrev wd_X1_sumOf_X5 (cyI cyJ cyZ : ClassId) (a_H a_H_sets a_H_papers a_H_worths a_this a_upper : Nat) (v_H_count : Int32) (v_lower : Int64) (v_H_papers : Nat → Int32) (v_H_sets : Nat → Int32) (v_upper : Nat → Int64) : va_W := [(a_H, .inr (2, [.ref a_H_sets, .ref a_H_papers, .ref a_H_worths, .int v_H_count])), (a_this, .inr (4, [.ref a_upper, .long v_lower])), (a_H_papers, .inl (cyI, 7, .inl v_H_papers)), (a_H_sets, .inl (cyI, 7, .inl v_H_sets)), (a_upper, .inl (cyJ, 7, .inr (.inl v_upper)))]
def lp_X1_sumOf_X5_5 (y2 : Int32) (v_H_count : Int32) (v_H_papers : Nat → Int32) (v_H_sets : Nat → Int32) (v_upper : Nat → Int64) : Nat → Int64 → Int32 → Option (Int64)
  | 0, _, _ => none
  | n + 1, y3, y5 => (if v_H_count ≤ y5 then some y3 else (f_X3_tells y5 y2 v_H_sets).bind (fun q2 => (if q2 = 0 then lp_X1_sumOf_X5_5 y2 v_H_count v_H_papers v_H_sets v_upper n y3 (y5 + (1 : Int32)) else (if ob_in y5 7 = true then (if ob_in y5 7 = true then lp_X1_sumOf_X5_5 y2 v_H_count v_H_papers v_H_sets v_upper n (y3 + ((v_upper y5.toNatClampNeg) * ((v_H_papers y5.toNatClampNeg)).toInt64)) (y5 + (1 : Int32)) else none) else none))))
def f_X1_sumOf_X5 (x2 : Int32) (v_H_count : Int32) (v_H_papers : Nat → Int32) (v_H_sets : Nat → Int32) (v_upper : Nat → Int64) : Option (Int64) := (lp_X1_sumOf_X5_5 x2 v_H_count v_H_papers v_H_sets v_upper FU (0 : Int64) (0 : Int32)).bind (fun q6 => some q6)
set_option maxHeartbeats 4000000 in
set_option maxRecDepth 100000 in
theorem wl_X1_sumOf_X5_5 {p : Program} {l : Launch} {e : Env} {s : State} {m : MethodId} {args : Array Value} {below : List Frame} {meth : Method} {c : Code} {A : Nat → Prop} {Q : State → Prop} {D : va_G} {cyI cyJ cyZ : ClassId} {a_H a_H_sets a_H_papers a_H_worths a_this a_upper : Nat} {y2 : Int32} {v_H_count : Int32} {v_lower : Int64} {v_H_papers : Nat → Int32} {v_H_sets : Nat → Int32} {v_upper : Nat → Int64} (C : kC p s m args c cX1_sumOf 6 RX1 wsX1_sumOf D (kTy cyI cyJ cyZ) A) :
    ∀ (n : Nat) (y3 : Int64) (y5 : Int32) (q : Int64) (H : Heap) (locs : List Loc) (ls : Array Slot), lp_X1_sumOf_X5_5 y2 v_H_count v_H_papers v_H_sets v_upper n y3 y5 = some q → (∀ (H : Heap) (locs : List Loc) (ls : Array Slot), va_P D vwCl (wd_X1_sumOf_X5 cyI cyJ cyZ a_H a_H_sets a_H_papers a_H_worths a_this a_upper v_H_count v_lower v_H_papers v_H_sets v_upper) H → va_D A (wd_X1_sumOf_X5 cyI cyJ cyZ a_H a_H_sets a_H_papers a_H_worths a_this a_upper v_H_count v_lower v_H_papers v_H_sets v_upper) → va_S A s.heap H locs → lv_has ls 6 [(3, .long q)] → W p l e rm_X1_sumOf_X5 s m args below meth c H locs 0 0 Q (F0 m 49 ls [])) → va_P D vwCl (wd_X1_sumOf_X5 cyI cyJ cyZ a_H a_H_sets a_H_papers a_H_worths a_this a_upper v_H_count v_lower v_H_papers v_H_sets v_upper) H → va_D A (wd_X1_sumOf_X5 cyI cyJ cyZ a_H a_H_sets a_H_papers a_H_worths a_this a_upper v_H_count v_lower v_H_papers v_H_sets v_upper) → va_S A s.heap H locs → lv_has ls 6 [(0, .ref a_this), (1, .ref a_H), (2, .int y2), (3, .long y3), (5, .int y5)] → W p l e rm_X1_sumOf_X5 s m args below meth c H locs 0 0 Q (F0 m 5 ls []) := by
  obtain ⟨hx, hb, hml, hown, hts, hK, hA⟩ := id C
  have iX3 : ∀ w ∈ u_ws RX3 TX3 4, w ∈ wsX1_sumOf := by decide +kernel
  have iX5 : ∀ w ∈ u_ws RX5 TX5 2, w ∈ wsX1_sumOf := by decide +kernel
  have fl9 := hts (.fieldLink RX1 9 "FairSeats$Fractions" "upper" "[J") (by decide +kernel)
  have fl19 := hts (.fieldLink RX1 19 "FairSeats$Heaps" "count" "I") (by decide +kernel)
  have fl29 := hts (.fieldLink RX1 29 "FairSeats$Heaps" "papers" "[I") (by decide +kernel)
  have cw25 := cwV (R := rm_X1_sumOf_X5) (rm := rm_X3_tells) 2 hts gX1_sumOf_X3_tells rfl rfl rfl (by decide +kernel) ⟨Nat.le_of_ble_eq_true rfl, Nat.le_of_ble_eq_true rfl⟩
  intro n
  induction n with
  | zero =>
    intro y3 y5 q H locs ls hf K hP hD hS hl
    rw [lp_X1_sumOf_X5_5] at hf
    cases hf
  | succ n ih =>
    intro y3 y5 q H locs ls hf K hP hD hS hl
    rw [lp_X1_sumOf_X5_5] at hf
    refine lv_iload hx hb dX1_sumOf_5 (lv_at hl 4 rfl) ?_
    refine lv_aload_n hx hb dX1_sumOf_7 rfl (lv_at hl 1 rfl) ?_
    refine va_get (D := D) (ci := 2) (v := .int v_H_count) (C := RX3) (T := TX3) (N := 4) hx hb hts iX3 hown hK hP 0 rfl rfl 3 (by decide) fl19 (fun _ h9 => h9) rfl dX1_sumOf_8 ?_
    refine lv_icmp_ge (tgt := 49) hx hb dX1_sumOf_11 (by decide) (fun c1 => ?_) (fun c1 => ?_)
    · have hf := ob_pos c1 hf
      obtain rfl := Option.some.inj hf
      exact K _ _ _ hP hD hS (lv_sub hl [3] rfl)
    · have hf := ob_neg c1 hf
      refine lv_aload_n hx hb dX1_sumOf_14 rfl (lv_at hl 1 rfl) ?_
      refine lv_iload hx hb dX1_sumOf_15 (lv_at hl 4 rfl) ?_
      refine lv_iload_n hx hb dX1_sumOf_17 rfl (lv_at hl 2 rfl) ?_
      obtain ⟨q2, hq2, hf⟩ := ob_bind hf
      refine k_Vz (wo := (wd_X1_sumOf_X5 cyI cyJ cyZ a_H a_H_sets a_H_papers a_H_worths a_this a_upper v_H_count v_lower v_H_papers v_H_sets v_upper)) (As := [.int y5, .int y2]) (rest := []) C (c_X3_tells l D cyI cyJ cyZ a_H a_H_sets a_H_papers a_H_worths v_H_count v_H_sets y5 y2 q2 hq2) cw25 hP hD hS [0, 3] [1, 2, 4] [3, 0, 1, 4, 2] rfl rfl rfl (by decide) 0 (ci := 2) rfl rfl rfl rfl rfl hl.1 (Nat.le_of_ble_eq_true rfl) dX1_sumOf_18 ⟨Nat.zero_le _, Nat.zero_le _⟩ (fun H locs zq2 hP hD hS => ?_)
      refine lv_if_eq (tgt := 43) hx hb dX1_sumOf_21 (by decide) (fun c3 => ?_) (fun c3 => ?_)
      · have hf := ob_pos c3 hf
        refine lv_iinc (v := (y5 + (1 : Int32))) (lv' := [(5, .int (y5 + (1 : Int32))), (0, .ref a_this), (1, .ref a_H), (2, .int y2), (3, .long y3)]) hx hb dX1_sumOf_43 hl (k := 4) rfl rfl (by decide) rfl (fun ls hl => ?_)
        refine lv_goto (tgt := 5) hx hb dX1_sumOf_46 (by decide) ?_
        exact ih y3 (y5 + (1 : Int32)) _ _ _ _ hf K hP hD hS (lv_sub hl [1, 2, 3, 4, 0] rfl)
      · have hf := ob_neg c3 hf
        refine lv_lload_n hx hb dX1_sumOf_24 rfl (lv_at hl 3 rfl) ?_
        refine lv_aload_n hx hb dX1_sumOf_25 rfl (lv_at hl 0 rfl) ?_
        refine va_get (D := D) (ci := 4) (v := .ref a_upper) (C := RX5) (T := TX5) (N := 2) hx hb hts iX5 hown hK hP 1 rfl rfl 0 (by decide) fl9 (fun _ h9 => h9) rfl dX1_sumOf_26 ?_
        refine lv_iload hx hb dX1_sumOf_29 (lv_at hl 4 rfl) ?_
        obtain ⟨h4, hf⟩ := og_in hf
        refine va_lald hx hb hK hP 4 1 rfl rfl h4 dX1_sumOf_31 ?_
        refine lv_aload_n hx hb dX1_sumOf_32 rfl (lv_at hl 1 rfl) ?_
        refine va_get (D := D) (ci := 2) (v := .ref a_H_papers) (C := RX3) (T := TX3) (N := 4) hx hb hts iX3 hown hK hP 0 rfl rfl 1 (by decide) fl29 (fun _ h9 => h9) rfl dX1_sumOf_33 ?_
        refine lv_iload hx hb dX1_sumOf_36 (lv_at hl 4 rfl) ?_
        obtain ⟨h5, hf⟩ := og_in hf
        refine va_iald hx hb hK hP 2 0 rfl rfl h5 dX1_sumOf_38 ?_
        refine lv_i2l (v := ((v_H_papers y5.toNatClampNeg)).toInt64) hx hb dX1_sumOf_39 rfl ?_
        refine lv_lmul hx hb dX1_sumOf_40 ?_
        refine lv_ladd hx hb dX1_sumOf_41 ?_
        refine lv_lstore_n (lv' := [(3, .long (y3 + ((v_upper y5.toNatClampNeg) * ((v_H_papers y5.toNatClampNeg)).toInt64))), (0, .ref a_this), (1, .ref a_H), (2, .int y2), (5, .int y5)]) hx hb dX1_sumOf_42 rfl hl (by decide) rfl (fun ls hl => ?_)
        refine lv_iinc (v := (y5 + (1 : Int32))) (lv' := [(5, .int (y5 + (1 : Int32))), (3, .long (y3 + ((v_upper y5.toNatClampNeg) * ((v_H_papers y5.toNatClampNeg)).toInt64))), (0, .ref a_this), (1, .ref a_H), (2, .int y2)]) hx hb dX1_sumOf_43 hl (k := 4) rfl rfl (by decide) rfl (fun ls hl => ?_)
        refine lv_goto (tgt := 5) hx hb dX1_sumOf_46 (by decide) ?_
        exact ih (y3 + ((v_upper y5.toNatClampNeg) * ((v_H_papers y5.toNatClampNeg)).toInt64)) (y5 + (1 : Int32)) _ _ _ _ hf K hP hD hS (lv_sub hl [2, 3, 4, 1, 0] rfl)
set_option maxHeartbeats 4000000 in
set_option maxRecDepth 100000 in
theorem c_X1_sumOf_X5 (l : Launch) (D : va_G) (cyI cyJ cyZ : ClassId) (a_H a_H_sets a_H_papers a_H_worths a_this a_upper : Nat) (v_H_count : Int32) (v_lower : Int64) (v_H_papers : Nat → Int32) (v_H_sets : Nat → Int32) (v_upper : Nat → Int64) (x2 : Int32) (q : Int64) (hf : f_X1_sumOf_X5 x2 v_H_count v_H_papers v_H_sets v_upper = some q) : kMl l yX1_sumOf wsX1_sumOf rm_X1_sumOf_X5 D (kTy cyI cyJ cyZ) [.ref a_this, .ref a_H, .int x2] (wd_X1_sumOf_X5 cyI cyJ cyZ a_H a_H_sets a_H_papers a_H_worths a_this a_upper v_H_count v_lower v_H_papers v_H_sets v_upper) (wd_X1_sumOf_X5 cyI cyJ cyZ a_H a_H_sets a_H_papers a_H_worths a_this a_upper v_H_count v_lower v_H_papers v_H_sets v_upper) q := by
  refine kMl_of (cc := cX1_sumOf) (nL := 6) (own := RX1) (by decide) rfl rfl (Nat.le_of_ble_eq_true rfl) ?_
  intro p e s m below meth c A Q ls C hret hP hD hS hl
  have hl : lv_has ls 6 [(0, .ref a_this), (1, .ref a_H), (2, .int x2)] := hl
  unfold f_X1_sumOf_X5 at hf
  obtain ⟨hx, hb, hml, hown, hts, hK, hA⟩ := id C
  refine lv_lconst (v := 0) hx hb dX1_sumOf_0 (by decide) ?_
  refine lv_lstore_n (lv' := [(3, .long (0 : Int64)), (0, .ref a_this), (1, .ref a_H), (2, .int x2)]) hx hb dX1_sumOf_1 rfl hl (by decide) rfl (fun ls hl => ?_)
  refine lv_iconst (v := (0 : Int32)) hx hb dX1_sumOf_2 (by decide) ?_
  refine lv_istore (lv' := [(5, .int (0 : Int32)), (3, .long (0 : Int64)), (0, .ref a_this), (1, .ref a_H), (2, .int x2)]) hx hb dX1_sumOf_3 hl (by decide) rfl (fun ls hl => ?_)
  obtain ⟨q6, hq6, hf⟩ := ob_bind hf
  refine wl_X1_sumOf_X5_5 C FU (0 : Int64) (0 : Int32) _ _ _ _ hq6 (fun H locs ls hP hD hS hl => ?_) hP hD hS (lv_sub hl [2, 3, 4, 1, 0] rfl)
  refine lv_lload_n hx hb dX1_sumOf_49 rfl (lv_at hl 0 rfl) ?_
  obtain rfl := Option.some.inj hf
  exact hret _ _ _ _ dX1_sumOf_50 hP hD hS
abbrev rm_X5_lightest : Room := { frames := 2, cells := 0, slots := 0, locals := 47 }
abbrev wd_X5_lightest (cyI cyJ cyZ : ClassId) (a_H a_H_sets a_H_papers a_H_worths a_this a_upper : Nat) (v_H_count : Int32) (v_lower : Int64) (v_H_papers : Nat → Int32) (v_H_sets : Nat → Int32) (v_upper : Nat → Int64) : va_W := [(a_H, .inr (2, [.ref a_H_sets, .ref a_H_papers, .ref a_H_worths, .int v_H_count])), (a_this, .inr (4, [.ref a_upper, .long v_lower])), (a_H_papers, .inl (cyI, 7, .inl v_H_papers)), (a_H_sets, .inl (cyI, 7, .inl v_H_sets)), (a_upper, .inl (cyJ, 7, .inr (.inl v_upper)))]
def lp_X5_lightest_12 (y2 : Int32) (v_H_count : Int32) (v_lower : Int64) (v_H_papers : Nat → Int32) (v_H_sets : Nat → Int32) (v_upper : Nat → Int64) : Nat → Int32 → Int64 → Int32 → Int32 → Option (Int32)
  | 0, _, _, _, _ => none
  | n + 1, y3, y4, y6, y7 => (if (8 : Int32) ≤ y7 then some y3 else (if ((y2 >>> (y7 &&& 31)) &&& (1 : Int32)) = (1 : Int32) then lp_X5_lightest_12 y2 v_H_count v_lower v_H_papers v_H_sets v_upper n y3 y4 y6 (y7 + (1 : Int32)) else (f_X3_telling y7 v_H_count v_H_papers v_H_sets).bind (fun q3 => (f_X1_sumOf_X5 y7 v_H_count v_H_papers v_H_sets v_upper).bind (fun q4 => (if q3 ≤ 0 then (if y3 = (-6 : Int32) then lp_X5_lightest_12 y2 v_H_count v_lower v_H_papers v_H_sets v_upper n y7 (v_lower + q4) q3 (y7 + (1 : Int32)) else lp_X5_lightest_12 y2 v_H_count v_lower v_H_papers v_H_sets v_upper n y3 y4 y6 (y7 + (1 : Int32))) else (if y6 = 0 then (if y3 = (-6 : Int32) then lp_X5_lightest_12 y2 v_H_count v_lower v_H_papers v_H_sets v_upper n y7 (v_lower + q4) q3 (y7 + (1 : Int32)) else lp_X5_lightest_12 y2 v_H_count v_lower v_H_papers v_H_sets v_upper n y7 (v_lower + q4) q3 (y7 + (1 : Int32))) else (if 0 ≤ (lg_cmp ((v_lower + q4) * (y6).toInt64) (y4 * (q3).toInt64)) then (if y3 = (-6 : Int32) then lp_X5_lightest_12 y2 v_H_count v_lower v_H_papers v_H_sets v_upper n y7 (v_lower + q4) q3 (y7 + (1 : Int32)) else lp_X5_lightest_12 y2 v_H_count v_lower v_H_papers v_H_sets v_upper n y3 y4 y6 (y7 + (1 : Int32))) else (if y3 = (-6 : Int32) then lp_X5_lightest_12 y2 v_H_count v_lower v_H_papers v_H_sets v_upper n y7 (v_lower + q4) q3 (y7 + (1 : Int32)) else lp_X5_lightest_12 y2 v_H_count v_lower v_H_papers v_H_sets v_upper n y7 (v_lower + q4) q3 (y7 + (1 : Int32))))))))))
def f_X5_lightest (x2 : Int32) (v_H_count : Int32) (v_lower : Int64) (v_H_papers : Nat → Int32) (v_H_sets : Nat → Int32) (v_upper : Nat → Int64) : Option (Int32) := (lp_X5_lightest_12 x2 v_H_count v_lower v_H_papers v_H_sets v_upper FU (-6 : Int32) (0 : Int64) (0 : Int32) (0 : Int32)).bind (fun q16 => some q16)
set_option maxHeartbeats 4000000 in
set_option maxRecDepth 100000 in
theorem wl_X5_lightest_12 {p : Program} {l : Launch} {e : Env} {s : State} {m : MethodId} {args : Array Value} {below : List Frame} {meth : Method} {c : Code} {A : Nat → Prop} {Q : State → Prop} {D : va_G} {cyI cyJ cyZ : ClassId} {a_H a_H_sets a_H_papers a_H_worths a_this a_upper : Nat} {y2 : Int32} {v_H_count : Int32} {v_lower : Int64} {v_H_papers : Nat → Int32} {v_H_sets : Nat → Int32} {v_upper : Nat → Int64} (C : kC p s m args c cX5_lightest 12 RX5 wsX5_lightest D (kTy cyI cyJ cyZ) A) :
    ∀ (n : Nat) (y3 : Int32) (y4 : Int64) (y6 : Int32) (y7 : Int32) (q : Int32) (H : Heap) (locs : List Loc) (ls : Array Slot), lp_X5_lightest_12 y2 v_H_count v_lower v_H_papers v_H_sets v_upper n y3 y4 y6 y7 = some q → (∀ (H : Heap) (locs : List Loc) (ls : Array Slot), va_P D vwCl (wd_X5_lightest cyI cyJ cyZ a_H a_H_sets a_H_papers a_H_worths a_this a_upper v_H_count v_lower v_H_papers v_H_sets v_upper) H → va_D A (wd_X5_lightest cyI cyJ cyZ a_H a_H_sets a_H_papers a_H_worths a_this a_upper v_H_count v_lower v_H_papers v_H_sets v_upper) → va_S A s.heap H locs → lv_has ls 12 [(3, .int q)] → W p l e rm_X5_lightest s m args below meth c H locs 0 0 Q (F0 m 115 ls [])) → va_P D vwCl (wd_X5_lightest cyI cyJ cyZ a_H a_H_sets a_H_papers a_H_worths a_this a_upper v_H_count v_lower v_H_papers v_H_sets v_upper) H → va_D A (wd_X5_lightest cyI cyJ cyZ a_H a_H_sets a_H_papers a_H_worths a_this a_upper v_H_count v_lower v_H_papers v_H_sets v_upper) → va_S A s.heap H locs → lv_has ls 12 [(0, .ref a_this), (1, .ref a_H), (2, .int y2), (3, .int y3), (4, .long y4), (6, .int y6), (7, .int y7)] → W p l e rm_X5_lightest s m args below meth c H locs 0 0 Q (F0 m 12 ls []) := by
  obtain ⟨hx, hb, hml, hown, hts, hK, hA⟩ := id C
  have iX5 : ∀ w ∈ u_ws RX5 TX5 2, w ∈ wsX5_lightest := by decide +kernel
  have fl15 := hts (.fieldLink RX5 15 "FairSeats$Loads" "lower" "J") (by decide +kernel)
  have sflower := hts (.sameField "FairSeats$Loads" "FairSeats$Fractions" "lower" "J") (by decide +kernel)
  have cw9 := cwV (R := rm_X5_lightest) (rm := rm_X3_telling) 1 hts gX5_lightest_X3_telling rfl rfl rfl (by decide +kernel) ⟨Nat.le_of_ble_eq_true rfl, Nat.le_of_ble_eq_true rfl⟩
  have cw21 := va_cwU (R := rm_X5_lightest) (rm := rm_X1_sumOf_X5) 2 hts gX5_lightest_X1_sumOf_u21X5 rfl rfl rfl rfl (by decide +kernel) ⟨Nat.le_of_ble_eq_true rfl, Nat.le_of_ble_eq_true rfl⟩
  intro n
  induction n with
  | zero =>
    intro y3 y4 y6 y7 q H locs ls hf K hP hD hS hl
    rw [lp_X5_lightest_12] at hf
    cases hf
  | succ n ih =>
    intro y3 y4 y6 y7 q H locs ls hf K hP hD hS hl
    rw [lp_X5_lightest_12] at hf
    refine lv_iload hx hb dX5_lightest_12 (lv_at hl 6 rfl) ?_
    refine lv_bipush (v := (8 : Int32)) hx hb dX5_lightest_14 (by decide) ?_
    refine lv_icmp_ge (tgt := 115) hx hb dX5_lightest_16 (by decide) (fun c1 => ?_) (fun c1 => ?_)
    · have hf := ob_pos c1 hf
      obtain rfl := Option.some.inj hf
      exact K _ _ _ hP hD hS (lv_sub hl [3] rfl)
    · have hf := ob_neg c1 hf
      refine lv_iload_n hx hb dX5_lightest_19 rfl (lv_at hl 2 rfl) ?_
      refine lv_iload hx hb dX5_lightest_20 (lv_at hl 6 rfl) ?_
      refine lv_ishr hx hb dX5_lightest_22 ?_
      refine lv_iconst (v := (1 : Int32)) hx hb dX5_lightest_23 (by decide) ?_
      refine lv_iand hx hb dX5_lightest_24 ?_
      refine lv_iconst (v := (1 : Int32)) hx hb dX5_lightest_25 (by decide) ?_
      refine lv_icmp_ne (tgt := 32) hx hb dX5_lightest_26 (by decide) (fun c2 => ?_) (fun c2 => ?_)
      · have hf := ob_neg c2 hf
        refine lv_aload_n hx hb dX5_lightest_32 rfl (lv_at hl 1 rfl) ?_
        refine lv_iload hx hb dX5_lightest_33 (lv_at hl 6 rfl) ?_
        obtain ⟨q3, hq3, hf⟩ := ob_bind hf
        refine k_Vi (wo := (wd_X5_lightest cyI cyJ cyZ a_H a_H_sets a_H_papers a_H_worths a_this a_upper v_H_count v_lower v_H_papers v_H_sets v_upper)) (As := [.int y7]) (rest := []) C (c_X3_telling l D cyI cyJ cyZ a_H a_H_sets a_H_papers a_H_worths v_H_count v_H_papers v_H_sets y7 q3 hq3) cw9 hP hD hS [0, 2, 3] [1, 4] [2, 0, 3, 4, 1] rfl rfl rfl (by decide) 0 (ci := 2) rfl rfl rfl rfl rfl hl.1 (Nat.le_of_ble_eq_true rfl) dX5_lightest_35 ⟨Nat.zero_le _, Nat.zero_le _⟩ (fun H locs hP hD hS => ?_)
        refine lv_istore (lv' := [(8, .int q3), (0, .ref a_this), (1, .ref a_H), (2, .int y2), (3, .int y3), (4, .long y4), (6, .int y6), (7, .int y7)]) hx hb dX5_lightest_38 hl (by decide) rfl (fun ls hl => ?_)
        refine lv_aload_n hx hb dX5_lightest_40 rfl (lv_at hl 1 rfl) ?_
        refine va_get (D := D) (ci := 4) (v := .long v_lower) (C := RX5) (T := TX5) (N := 2) hx hb hts iX5 hown hK hP 1 rfl rfl 1 (by decide) fl15 (fun x9 h9 => u_same sflower x9 h9) rfl dX5_lightest_41 ?_
        refine lv_aload_n hx hb dX5_lightest_44 rfl (lv_at hl 1 rfl) ?_
        refine lv_aload_n hx hb dX5_lightest_45 rfl (lv_at hl 2 rfl) ?_
        refine lv_iload hx hb dX5_lightest_46 (lv_at hl 7 rfl) ?_
        obtain ⟨q4, hq4, hf⟩ := ob_bind hf
        refine k_Ul (wo := (wd_X5_lightest cyI cyJ cyZ a_H a_H_sets a_H_papers a_H_worths a_this a_upper v_H_count v_lower v_H_papers v_H_sets v_upper)) (As := [.ref a_H, .int y7]) (rest := [.long v_lower]) C (c_X1_sumOf_X5 l D cyI cyJ cyZ a_H a_H_sets a_H_papers a_H_worths a_this a_upper v_H_count v_lower v_H_papers v_H_sets v_upper y7 q4 hq4) cw21 hP hD hS [0, 1, 2, 3, 4] [] [0, 1, 2, 3, 4] rfl rfl rfl (by decide) 1 (ci := 4) rfl rfl rfl rfl rfl hl.1 (Nat.le_of_ble_eq_true rfl) dX5_lightest_48 ⟨Nat.zero_le _, Nat.zero_le _⟩ (fun H locs hP hD hS => ?_)
        refine lv_ladd hx hb dX5_lightest_51 ?_
        refine lv_lstore (lv' := [(9, .long (v_lower + q4)), (8, .int q3), (0, .ref a_this), (1, .ref a_H), (2, .int y2), (3, .int y3), (4, .long y4), (6, .int y6), (7, .int y7)]) hx hb dX5_lightest_52 hl (by decide) rfl (fun ls hl => ?_)
        refine lv_iload hx hb dX5_lightest_54 (lv_at hl 1 rfl) ?_
        refine lv_if_le (tgt := 84) hx hb dX5_lightest_56 (by decide) (fun c5 => ?_) (fun c5 => ?_)
        · have hf := ob_pos c5 hf
          refine lv_iconst (v := (0 : Int32)) hx hb dX5_lightest_84 (by decide) ?_
          refine lv_istore (lv' := [(11, .int (0 : Int32)), (9, .long (v_lower + q4)), (8, .int q3), (0, .ref a_this), (1, .ref a_H), (2, .int y2), (3, .int y3), (4, .long y4), (6, .int y6), (7, .int y7)]) hx hb dX5_lightest_85 hl (by decide) rfl (fun ls hl => ?_)
          refine lv_iload_n hx hb dX5_lightest_87 rfl (lv_at hl 6 rfl) ?_
          refine lv_bipush (v := (-6 : Int32)) hx hb dX5_lightest_88 (by decide) ?_
          refine lv_icmp_eq (tgt := 98) hx hb dX5_lightest_90 (by decide) (fun c6 => ?_) (fun c6 => ?_)
          · have hf := ob_pos c6 hf
            refine lv_iload hx hb dX5_lightest_98 (lv_at hl 9 rfl) ?_
            refine lv_istore_n (lv' := [(3, .int y7), (11, .int (0 : Int32)), (9, .long (v_lower + q4)), (8, .int q3), (0, .ref a_this), (1, .ref a_H), (2, .int y2), (4, .long y4), (6, .int y6), (7, .int y7)]) hx hb dX5_lightest_100 rfl hl (by decide) rfl (fun ls hl => ?_)
            refine lv_lload hx hb dX5_lightest_101 (lv_at hl 2 rfl) ?_
            refine lv_lstore (lv' := [(4, .long (v_lower + q4)), (3, .int y7), (11, .int (0 : Int32)), (9, .long (v_lower + q4)), (8, .int q3), (0, .ref a_this), (1, .ref a_H), (2, .int y2), (6, .int y6), (7, .int y7)]) hx hb dX5_lightest_103 hl (by decide) rfl (fun ls hl => ?_)
            refine lv_iload hx hb dX5_lightest_105 (lv_at hl 4 rfl) ?_
            refine lv_istore (lv' := [(6, .int q3), (4, .long (v_lower + q4)), (3, .int y7), (11, .int (0 : Int32)), (9, .long (v_lower + q4)), (8, .int q3), (0, .ref a_this), (1, .ref a_H), (2, .int y2), (7, .int y7)]) hx hb dX5_lightest_107 hl (by decide) rfl (fun ls hl => ?_)
            refine lv_iinc (v := (y7 + (1 : Int32))) (lv' := [(7, .int (y7 + (1 : Int32))), (6, .int q3), (4, .long (v_lower + q4)), (3, .int y7), (11, .int (0 : Int32)), (9, .long (v_lower + q4)), (8, .int q3), (0, .ref a_this), (1, .ref a_H), (2, .int y2)]) hx hb dX5_lightest_109 hl (k := 9) rfl rfl (by decide) rfl (fun ls hl => ?_)
            refine lv_goto (tgt := 12) hx hb dX5_lightest_112 (by decide) ?_
            exact ih y7 (v_lower + q4) q3 (y7 + (1 : Int32)) _ _ _ _ hf K hP hD hS (lv_sub hl [7, 8, 9, 3, 2, 1, 0] rfl)
          · have hf := ob_neg c6 hf
            refine lv_iload hx hb dX5_lightest_93 (lv_at hl 0 rfl) ?_
            refine lv_if_eq (tgt := 109) hx hb dX5_lightest_95 (by decide) (fun c7 => ?_) (fun c7 => ?_)
            · refine lv_iinc (v := (y7 + (1 : Int32))) (lv' := [(7, .int (y7 + (1 : Int32))), (11, .int (0 : Int32)), (9, .long (v_lower + q4)), (8, .int q3), (0, .ref a_this), (1, .ref a_H), (2, .int y2), (3, .int y3), (4, .long y4), (6, .int y6)]) hx hb dX5_lightest_109 hl (k := 9) rfl rfl (by decide) rfl (fun ls hl => ?_)
              refine lv_goto (tgt := 12) hx hb dX5_lightest_112 (by decide) ?_
              exact ih y3 y4 y6 (y7 + (1 : Int32)) _ _ _ _ hf K hP hD hS (lv_sub hl [4, 5, 6, 7, 8, 9, 0] rfl)
            · exact absurd c7 (by decide)
        · have hf := ob_neg c5 hf
          refine lv_iload hx hb dX5_lightest_59 (lv_at hl 7 rfl) ?_
          refine lv_if_eq (tgt := 80) hx hb dX5_lightest_61 (by decide) (fun c8 => ?_) (fun c8 => ?_)
          · have hf := ob_pos c8 hf
            refine lv_iconst (v := (1 : Int32)) hx hb dX5_lightest_80 (by decide) ?_
            refine lv_goto (tgt := 85) hx hb dX5_lightest_81 (by decide) ?_
            refine lv_istore (lv' := [(11, .int (1 : Int32)), (9, .long (v_lower + q4)), (8, .int q3), (0, .ref a_this), (1, .ref a_H), (2, .int y2), (3, .int y3), (4, .long y4), (6, .int y6), (7, .int y7)]) hx hb dX5_lightest_85 hl (by decide) rfl (fun ls hl => ?_)
            refine lv_iload_n hx hb dX5_lightest_87 rfl (lv_at hl 6 rfl) ?_
            refine lv_bipush (v := (-6 : Int32)) hx hb dX5_lightest_88 (by decide) ?_
            refine lv_icmp_eq (tgt := 98) hx hb dX5_lightest_90 (by decide) (fun c9 => ?_) (fun c9 => ?_)
            · have hf := ob_pos c9 hf
              refine lv_iload hx hb dX5_lightest_98 (lv_at hl 9 rfl) ?_
              refine lv_istore_n (lv' := [(3, .int y7), (11, .int (1 : Int32)), (9, .long (v_lower + q4)), (8, .int q3), (0, .ref a_this), (1, .ref a_H), (2, .int y2), (4, .long y4), (6, .int y6), (7, .int y7)]) hx hb dX5_lightest_100 rfl hl (by decide) rfl (fun ls hl => ?_)
              refine lv_lload hx hb dX5_lightest_101 (lv_at hl 2 rfl) ?_
              refine lv_lstore (lv' := [(4, .long (v_lower + q4)), (3, .int y7), (11, .int (1 : Int32)), (9, .long (v_lower + q4)), (8, .int q3), (0, .ref a_this), (1, .ref a_H), (2, .int y2), (6, .int y6), (7, .int y7)]) hx hb dX5_lightest_103 hl (by decide) rfl (fun ls hl => ?_)
              refine lv_iload hx hb dX5_lightest_105 (lv_at hl 4 rfl) ?_
              refine lv_istore (lv' := [(6, .int q3), (4, .long (v_lower + q4)), (3, .int y7), (11, .int (1 : Int32)), (9, .long (v_lower + q4)), (8, .int q3), (0, .ref a_this), (1, .ref a_H), (2, .int y2), (7, .int y7)]) hx hb dX5_lightest_107 hl (by decide) rfl (fun ls hl => ?_)
              refine lv_iinc (v := (y7 + (1 : Int32))) (lv' := [(7, .int (y7 + (1 : Int32))), (6, .int q3), (4, .long (v_lower + q4)), (3, .int y7), (11, .int (1 : Int32)), (9, .long (v_lower + q4)), (8, .int q3), (0, .ref a_this), (1, .ref a_H), (2, .int y2)]) hx hb dX5_lightest_109 hl (k := 9) rfl rfl (by decide) rfl (fun ls hl => ?_)
              refine lv_goto (tgt := 12) hx hb dX5_lightest_112 (by decide) ?_
              exact ih y7 (v_lower + q4) q3 (y7 + (1 : Int32)) _ _ _ _ hf K hP hD hS (lv_sub hl [7, 8, 9, 3, 2, 1, 0] rfl)
            · have hf := ob_neg c9 hf
              refine lv_iload hx hb dX5_lightest_93 (lv_at hl 0 rfl) ?_
              refine lv_if_eq (tgt := 109) hx hb dX5_lightest_95 (by decide) (fun c10 => ?_) (fun c10 => ?_)
              · exact absurd c10 (by decide)
              · refine lv_iload hx hb dX5_lightest_98 (lv_at hl 9 rfl) ?_
                refine lv_istore_n (lv' := [(3, .int y7), (11, .int (1 : Int32)), (9, .long (v_lower + q4)), (8, .int q3), (0, .ref a_this), (1, .ref a_H), (2, .int y2), (4, .long y4), (6, .int y6), (7, .int y7)]) hx hb dX5_lightest_100 rfl hl (by decide) rfl (fun ls hl => ?_)
                refine lv_lload hx hb dX5_lightest_101 (lv_at hl 2 rfl) ?_
                refine lv_lstore (lv' := [(4, .long (v_lower + q4)), (3, .int y7), (11, .int (1 : Int32)), (9, .long (v_lower + q4)), (8, .int q3), (0, .ref a_this), (1, .ref a_H), (2, .int y2), (6, .int y6), (7, .int y7)]) hx hb dX5_lightest_103 hl (by decide) rfl (fun ls hl => ?_)
                refine lv_iload hx hb dX5_lightest_105 (lv_at hl 4 rfl) ?_
                refine lv_istore (lv' := [(6, .int q3), (4, .long (v_lower + q4)), (3, .int y7), (11, .int (1 : Int32)), (9, .long (v_lower + q4)), (8, .int q3), (0, .ref a_this), (1, .ref a_H), (2, .int y2), (7, .int y7)]) hx hb dX5_lightest_107 hl (by decide) rfl (fun ls hl => ?_)
                refine lv_iinc (v := (y7 + (1 : Int32))) (lv' := [(7, .int (y7 + (1 : Int32))), (6, .int q3), (4, .long (v_lower + q4)), (3, .int y7), (11, .int (1 : Int32)), (9, .long (v_lower + q4)), (8, .int q3), (0, .ref a_this), (1, .ref a_H), (2, .int y2)]) hx hb dX5_lightest_109 hl (k := 9) rfl rfl (by decide) rfl (fun ls hl => ?_)
                refine lv_goto (tgt := 12) hx hb dX5_lightest_112 (by decide) ?_
                exact ih y7 (v_lower + q4) q3 (y7 + (1 : Int32)) _ _ _ _ hf K hP hD hS (lv_sub hl [7, 8, 9, 3, 2, 1, 0] rfl)
          · have hf := ob_neg c8 hf
            refine lv_lload hx hb dX5_lightest_64 (lv_at hl 0 rfl) ?_
            refine lv_iload hx hb dX5_lightest_66 (lv_at hl 7 rfl) ?_
            refine lv_i2l (v := (y6).toInt64) hx hb dX5_lightest_68 rfl ?_
            refine lv_lmul hx hb dX5_lightest_69 ?_
            refine lv_lload hx hb dX5_lightest_70 (lv_at hl 6 rfl) ?_
            refine lv_iload hx hb dX5_lightest_72 (lv_at hl 1 rfl) ?_
            refine lv_i2l (v := (q3).toInt64) hx hb dX5_lightest_74 rfl ?_
            refine lv_lmul hx hb dX5_lightest_75 ?_
            refine W.lcmp hx hb dX5_lightest_76 ?_
            refine lv_if_ge (tgt := 84) hx hb dX5_lightest_77 (by decide) (fun c11 => ?_) (fun c11 => ?_)
            · have hf := ob_pos c11 hf
              refine lv_iconst (v := (0 : Int32)) hx hb dX5_lightest_84 (by decide) ?_
              refine lv_istore (lv' := [(11, .int (0 : Int32)), (9, .long (v_lower + q4)), (8, .int q3), (0, .ref a_this), (1, .ref a_H), (2, .int y2), (3, .int y3), (4, .long y4), (6, .int y6), (7, .int y7)]) hx hb dX5_lightest_85 hl (by decide) rfl (fun ls hl => ?_)
              refine lv_iload_n hx hb dX5_lightest_87 rfl (lv_at hl 6 rfl) ?_
              refine lv_bipush (v := (-6 : Int32)) hx hb dX5_lightest_88 (by decide) ?_
              refine lv_icmp_eq (tgt := 98) hx hb dX5_lightest_90 (by decide) (fun c12 => ?_) (fun c12 => ?_)
              · have hf := ob_pos c12 hf
                refine lv_iload hx hb dX5_lightest_98 (lv_at hl 9 rfl) ?_
                refine lv_istore_n (lv' := [(3, .int y7), (11, .int (0 : Int32)), (9, .long (v_lower + q4)), (8, .int q3), (0, .ref a_this), (1, .ref a_H), (2, .int y2), (4, .long y4), (6, .int y6), (7, .int y7)]) hx hb dX5_lightest_100 rfl hl (by decide) rfl (fun ls hl => ?_)
                refine lv_lload hx hb dX5_lightest_101 (lv_at hl 2 rfl) ?_
                refine lv_lstore (lv' := [(4, .long (v_lower + q4)), (3, .int y7), (11, .int (0 : Int32)), (9, .long (v_lower + q4)), (8, .int q3), (0, .ref a_this), (1, .ref a_H), (2, .int y2), (6, .int y6), (7, .int y7)]) hx hb dX5_lightest_103 hl (by decide) rfl (fun ls hl => ?_)
                refine lv_iload hx hb dX5_lightest_105 (lv_at hl 4 rfl) ?_
                refine lv_istore (lv' := [(6, .int q3), (4, .long (v_lower + q4)), (3, .int y7), (11, .int (0 : Int32)), (9, .long (v_lower + q4)), (8, .int q3), (0, .ref a_this), (1, .ref a_H), (2, .int y2), (7, .int y7)]) hx hb dX5_lightest_107 hl (by decide) rfl (fun ls hl => ?_)
                refine lv_iinc (v := (y7 + (1 : Int32))) (lv' := [(7, .int (y7 + (1 : Int32))), (6, .int q3), (4, .long (v_lower + q4)), (3, .int y7), (11, .int (0 : Int32)), (9, .long (v_lower + q4)), (8, .int q3), (0, .ref a_this), (1, .ref a_H), (2, .int y2)]) hx hb dX5_lightest_109 hl (k := 9) rfl rfl (by decide) rfl (fun ls hl => ?_)
                refine lv_goto (tgt := 12) hx hb dX5_lightest_112 (by decide) ?_
                exact ih y7 (v_lower + q4) q3 (y7 + (1 : Int32)) _ _ _ _ hf K hP hD hS (lv_sub hl [7, 8, 9, 3, 2, 1, 0] rfl)
              · have hf := ob_neg c12 hf
                refine lv_iload hx hb dX5_lightest_93 (lv_at hl 0 rfl) ?_
                refine lv_if_eq (tgt := 109) hx hb dX5_lightest_95 (by decide) (fun c13 => ?_) (fun c13 => ?_)
                · refine lv_iinc (v := (y7 + (1 : Int32))) (lv' := [(7, .int (y7 + (1 : Int32))), (11, .int (0 : Int32)), (9, .long (v_lower + q4)), (8, .int q3), (0, .ref a_this), (1, .ref a_H), (2, .int y2), (3, .int y3), (4, .long y4), (6, .int y6)]) hx hb dX5_lightest_109 hl (k := 9) rfl rfl (by decide) rfl (fun ls hl => ?_)
                  refine lv_goto (tgt := 12) hx hb dX5_lightest_112 (by decide) ?_
                  exact ih y3 y4 y6 (y7 + (1 : Int32)) _ _ _ _ hf K hP hD hS (lv_sub hl [4, 5, 6, 7, 8, 9, 0] rfl)
                · exact absurd c13 (by decide)
            · have hf := ob_neg c11 hf
              refine lv_iconst (v := (1 : Int32)) hx hb dX5_lightest_80 (by decide) ?_
              refine lv_goto (tgt := 85) hx hb dX5_lightest_81 (by decide) ?_
              refine lv_istore (lv' := [(11, .int (1 : Int32)), (9, .long (v_lower + q4)), (8, .int q3), (0, .ref a_this), (1, .ref a_H), (2, .int y2), (3, .int y3), (4, .long y4), (6, .int y6), (7, .int y7)]) hx hb dX5_lightest_85 hl (by decide) rfl (fun ls hl => ?_)
              refine lv_iload_n hx hb dX5_lightest_87 rfl (lv_at hl 6 rfl) ?_
              refine lv_bipush (v := (-6 : Int32)) hx hb dX5_lightest_88 (by decide) ?_
              refine lv_icmp_eq (tgt := 98) hx hb dX5_lightest_90 (by decide) (fun c14 => ?_) (fun c14 => ?_)
              · have hf := ob_pos c14 hf
                refine lv_iload hx hb dX5_lightest_98 (lv_at hl 9 rfl) ?_
                refine lv_istore_n (lv' := [(3, .int y7), (11, .int (1 : Int32)), (9, .long (v_lower + q4)), (8, .int q3), (0, .ref a_this), (1, .ref a_H), (2, .int y2), (4, .long y4), (6, .int y6), (7, .int y7)]) hx hb dX5_lightest_100 rfl hl (by decide) rfl (fun ls hl => ?_)
                refine lv_lload hx hb dX5_lightest_101 (lv_at hl 2 rfl) ?_
                refine lv_lstore (lv' := [(4, .long (v_lower + q4)), (3, .int y7), (11, .int (1 : Int32)), (9, .long (v_lower + q4)), (8, .int q3), (0, .ref a_this), (1, .ref a_H), (2, .int y2), (6, .int y6), (7, .int y7)]) hx hb dX5_lightest_103 hl (by decide) rfl (fun ls hl => ?_)
                refine lv_iload hx hb dX5_lightest_105 (lv_at hl 4 rfl) ?_
                refine lv_istore (lv' := [(6, .int q3), (4, .long (v_lower + q4)), (3, .int y7), (11, .int (1 : Int32)), (9, .long (v_lower + q4)), (8, .int q3), (0, .ref a_this), (1, .ref a_H), (2, .int y2), (7, .int y7)]) hx hb dX5_lightest_107 hl (by decide) rfl (fun ls hl => ?_)
                refine lv_iinc (v := (y7 + (1 : Int32))) (lv' := [(7, .int (y7 + (1 : Int32))), (6, .int q3), (4, .long (v_lower + q4)), (3, .int y7), (11, .int (1 : Int32)), (9, .long (v_lower + q4)), (8, .int q3), (0, .ref a_this), (1, .ref a_H), (2, .int y2)]) hx hb dX5_lightest_109 hl (k := 9) rfl rfl (by decide) rfl (fun ls hl => ?_)
                refine lv_goto (tgt := 12) hx hb dX5_lightest_112 (by decide) ?_
                exact ih y7 (v_lower + q4) q3 (y7 + (1 : Int32)) _ _ _ _ hf K hP hD hS (lv_sub hl [7, 8, 9, 3, 2, 1, 0] rfl)
              · have hf := ob_neg c14 hf
                refine lv_iload hx hb dX5_lightest_93 (lv_at hl 0 rfl) ?_
                refine lv_if_eq (tgt := 109) hx hb dX5_lightest_95 (by decide) (fun c15 => ?_) (fun c15 => ?_)
                · exact absurd c15 (by decide)
                · refine lv_iload hx hb dX5_lightest_98 (lv_at hl 9 rfl) ?_
                  refine lv_istore_n (lv' := [(3, .int y7), (11, .int (1 : Int32)), (9, .long (v_lower + q4)), (8, .int q3), (0, .ref a_this), (1, .ref a_H), (2, .int y2), (4, .long y4), (6, .int y6), (7, .int y7)]) hx hb dX5_lightest_100 rfl hl (by decide) rfl (fun ls hl => ?_)
                  refine lv_lload hx hb dX5_lightest_101 (lv_at hl 2 rfl) ?_
                  refine lv_lstore (lv' := [(4, .long (v_lower + q4)), (3, .int y7), (11, .int (1 : Int32)), (9, .long (v_lower + q4)), (8, .int q3), (0, .ref a_this), (1, .ref a_H), (2, .int y2), (6, .int y6), (7, .int y7)]) hx hb dX5_lightest_103 hl (by decide) rfl (fun ls hl => ?_)
                  refine lv_iload hx hb dX5_lightest_105 (lv_at hl 4 rfl) ?_
                  refine lv_istore (lv' := [(6, .int q3), (4, .long (v_lower + q4)), (3, .int y7), (11, .int (1 : Int32)), (9, .long (v_lower + q4)), (8, .int q3), (0, .ref a_this), (1, .ref a_H), (2, .int y2), (7, .int y7)]) hx hb dX5_lightest_107 hl (by decide) rfl (fun ls hl => ?_)
                  refine lv_iinc (v := (y7 + (1 : Int32))) (lv' := [(7, .int (y7 + (1 : Int32))), (6, .int q3), (4, .long (v_lower + q4)), (3, .int y7), (11, .int (1 : Int32)), (9, .long (v_lower + q4)), (8, .int q3), (0, .ref a_this), (1, .ref a_H), (2, .int y2)]) hx hb dX5_lightest_109 hl (k := 9) rfl rfl (by decide) rfl (fun ls hl => ?_)
                  refine lv_goto (tgt := 12) hx hb dX5_lightest_112 (by decide) ?_
                  exact ih y7 (v_lower + q4) q3 (y7 + (1 : Int32)) _ _ _ _ hf K hP hD hS (lv_sub hl [7, 8, 9, 3, 2, 1, 0] rfl)
      · have hf := ob_pos c2 hf
        refine lv_goto (tgt := 109) hx hb dX5_lightest_29 (by decide) ?_
        refine lv_iinc (v := (y7 + (1 : Int32))) (lv' := [(7, .int (y7 + (1 : Int32))), (0, .ref a_this), (1, .ref a_H), (2, .int y2), (3, .int y3), (4, .long y4), (6, .int y6)]) hx hb dX5_lightest_109 hl (k := 6) rfl rfl (by decide) rfl (fun ls hl => ?_)
        refine lv_goto (tgt := 12) hx hb dX5_lightest_112 (by decide) ?_
        exact ih y3 y4 y6 (y7 + (1 : Int32)) _ _ _ _ hf K hP hD hS (lv_sub hl [1, 2, 3, 4, 5, 6, 0] rfl)
set_option maxHeartbeats 4000000 in
set_option maxRecDepth 100000 in
theorem c_X5_lightest (l : Launch) (D : va_G) (cyI cyJ cyZ : ClassId) (a_H a_H_sets a_H_papers a_H_worths a_this a_upper : Nat) (v_H_count : Int32) (v_lower : Int64) (v_H_papers : Nat → Int32) (v_H_sets : Nat → Int32) (v_upper : Nat → Int64) (x2 : Int32) (q : Int32) (hf : f_X5_lightest x2 v_H_count v_lower v_H_papers v_H_sets v_upper = some q) : kMi l yX5_lightest wsX5_lightest rm_X5_lightest D (kTy cyI cyJ cyZ) [.ref a_this, .ref a_H, .int x2] (wd_X5_lightest cyI cyJ cyZ a_H a_H_sets a_H_papers a_H_worths a_this a_upper v_H_count v_lower v_H_papers v_H_sets v_upper) (wd_X5_lightest cyI cyJ cyZ a_H a_H_sets a_H_papers a_H_worths a_this a_upper v_H_count v_lower v_H_papers v_H_sets v_upper) q := by
  refine kMi_of (cc := cX5_lightest) (nL := 12) (own := RX5) (by decide) rfl rfl (Nat.le_of_ble_eq_true rfl) ?_
  intro p e s m below meth c A Q ls C hret hP hD hS hl
  have hl : lv_has ls 12 [(0, .ref a_this), (1, .ref a_H), (2, .int x2)] := hl
  unfold f_X5_lightest at hf
  obtain ⟨hx, hb, hml, hown, hts, hK, hA⟩ := id C
  refine lv_bipush (v := (-6 : Int32)) hx hb dX5_lightest_0 (by decide) ?_
  refine lv_istore_n (lv' := [(3, .int (-6 : Int32)), (0, .ref a_this), (1, .ref a_H), (2, .int x2)]) hx hb dX5_lightest_2 rfl hl (by decide) rfl (fun ls hl => ?_)
  refine lv_lconst (v := 0) hx hb dX5_lightest_3 (by decide) ?_
  refine lv_lstore (lv' := [(4, .long (0 : Int64)), (3, .int (-6 : Int32)), (0, .ref a_this), (1, .ref a_H), (2, .int x2)]) hx hb dX5_lightest_4 hl (by decide) rfl (fun ls hl => ?_)
  refine lv_iconst (v := (0 : Int32)) hx hb dX5_lightest_6 (by decide) ?_
  refine lv_istore (lv' := [(6, .int (0 : Int32)), (4, .long (0 : Int64)), (3, .int (-6 : Int32)), (0, .ref a_this), (1, .ref a_H), (2, .int x2)]) hx hb dX5_lightest_7 hl (by decide) rfl (fun ls hl => ?_)
  refine lv_iconst (v := (0 : Int32)) hx hb dX5_lightest_9 (by decide) ?_
  refine lv_istore (lv' := [(7, .int (0 : Int32)), (6, .int (0 : Int32)), (4, .long (0 : Int64)), (3, .int (-6 : Int32)), (0, .ref a_this), (1, .ref a_H), (2, .int x2)]) hx hb dX5_lightest_10 hl (by decide) rfl (fun ls hl => ?_)
  obtain ⟨q16, hq16, hf⟩ := ob_bind hf
  refine wl_X5_lightest_12 C FU (-6 : Int32) (0 : Int64) (0 : Int32) (0 : Int32) _ _ _ _ hq16 (fun H locs ls hP hD hS hl => ?_) hP hD hS (lv_sub hl [4, 5, 6, 3, 2, 1, 0] rfl)
  refine lv_iload_n hx hb dX5_lightest_115 rfl (lv_at hl 0 rfl) ?_
  obtain rfl := Option.some.inj hf
  exact hret _ _ _ _ dX5_lightest_116 hP hD hS
abbrev rm_X1_widen_X5 : Room := { frames := 0, cells := 0, slots := 0, locals := 0 }
abbrev wd_X1_widen_X5 (cyI cyJ cyZ : ClassId) (a_this a_upper : Nat) (v_lower : Int64) (v_upper : Nat → Int64) : va_W := [(a_this, .inr (4, [.ref a_upper, .long v_lower])), (a_upper, .inl (cyJ, 7, .inr (.inl v_upper)))]
def lp_X1_widen_X5_2 (y1 : Int32) : Nat → Int32 → (Nat → Int64) → Option ((Nat → Int64))
  | 0, _, _ => none
  | n + 1, y2, v_upper => (if (6 : Int32) < y2 then some v_upper else (if ob_in y2 7 = true then (if ob_in y2 7 = true then lp_X1_widen_X5_2 y1 n (y2 + (1 : Int32)) (vp_updL v_upper y2.toNatClampNeg ((v_upper y2.toNatClampNeg) * (y1).toInt64)) else none) else none))
def f_X1_widen_X5 (x1 : Int32) (v_lower : Int64) (v_upper : Nat → Int64) : Option (Int64 × (Nat → Int64)) := (lp_X1_widen_X5_2 x1 FU (0 : Int32) v_upper).bind (fun q4 => some ((v_lower * (x1).toInt64), q4))
set_option maxHeartbeats 4000000 in
set_option maxRecDepth 100000 in
theorem wl_X1_widen_X5_2 {p : Program} {l : Launch} {e : Env} {s : State} {m : MethodId} {args : Array Value} {below : List Frame} {meth : Method} {c : Code} {A : Nat → Prop} {Q : State → Prop} {D : va_G} {cyI cyJ cyZ : ClassId} {a_this a_upper : Nat} {y1 : Int32} {v_lower : Int64} (C : kC p s m args c cX1_widen 3 RX1 wsX1_widen D (kTy cyI cyJ cyZ) A) :
    ∀ (n : Nat) (y2 : Int32) (v_upper : Nat → Int64) (q : (Nat → Int64)) (H : Heap) (locs : List Loc) (ls : Array Slot), lp_X1_widen_X5_2 y1 n y2 v_upper = some q → (∀ (H : Heap) (locs : List Loc) (ls : Array Slot), va_P D vwCl (wd_X1_widen_X5 cyI cyJ cyZ a_this a_upper v_lower q) H → va_D A (wd_X1_widen_X5 cyI cyJ cyZ a_this a_upper v_lower q) → va_S A s.heap H locs → lv_has ls 3 [(0, .ref a_this), (1, .int y1)] → W p l e rm_X1_widen_X5 s m args below meth c H locs 0 0 Q (F0 m 25 ls [])) → va_P D vwCl (wd_X1_widen_X5 cyI cyJ cyZ a_this a_upper v_lower v_upper) H → va_D A (wd_X1_widen_X5 cyI cyJ cyZ a_this a_upper v_lower v_upper) → va_S A s.heap H locs → lv_has ls 3 [(0, .ref a_this), (1, .int y1), (2, .int y2)] → W p l e rm_X1_widen_X5 s m args below meth c H locs 0 0 Q (F0 m 2 ls []) := by
  obtain ⟨hx, hb, hml, hown, hts, hK, hA⟩ := id C
  have iX5 : ∀ w ∈ u_ws RX5 TX5 2, w ∈ wsX1_widen := by decide +kernel
  have fl9 := hts (.fieldLink RX1 9 "FairSeats$Fractions" "upper" "[J") (by decide +kernel)
  intro n
  induction n with
  | zero =>
    intro y2 v_upper q H locs ls hf K hP hD hS hl
    rw [lp_X1_widen_X5_2] at hf
    cases hf
  | succ n ih =>
    intro y2 v_upper q H locs ls hf K hP hD hS hl
    rw [lp_X1_widen_X5_2] at hf
    refine lv_iload_n hx hb dX1_widen_2 rfl (lv_at hl 2 rfl) ?_
    refine lv_bipush (v := (6 : Int32)) hx hb dX1_widen_3 (by decide) ?_
    refine lv_icmp_gt (tgt := 25) hx hb dX1_widen_5 (by decide) (fun c1 => ?_) (fun c1 => ?_)
    · have hf := ob_pos c1 hf
      obtain rfl := Option.some.inj hf
      exact K _ _ _ hP hD hS (lv_sub hl [0, 1] rfl)
    · have hf := ob_neg c1 hf
      refine lv_aload_n hx hb dX1_widen_8 rfl (lv_at hl 0 rfl) ?_
      refine va_get (D := D) (ci := 4) (v := .ref a_upper) (C := RX5) (T := TX5) (N := 2) hx hb hts iX5 hown hK hP 0 rfl rfl 0 (by decide) fl9 (fun _ h9 => h9) rfl dX1_widen_9 ?_
      refine lv_iload_n hx hb dX1_widen_12 rfl (lv_at hl 2 rfl) ?_
      refine lv_dup2_11 hx hb dX1_widen_13 rfl rfl ?_
      obtain ⟨h2, hf⟩ := og_in hf
      refine va_lald hx hb hK hP 1 1 rfl rfl h2 dX1_widen_14 ?_
      refine lv_iload_n hx hb dX1_widen_15 rfl (lv_at hl 1 rfl) ?_
      refine lv_i2l (v := (y1).toInt64) hx hb dX1_widen_16 rfl ?_
      refine lv_lmul hx hb dX1_widen_17 ?_
      obtain ⟨h3, hf⟩ := og_in hf
      refine va_last hx hb hK hP hD hS 1 1 rfl rfl h3 dX1_widen_18 (fun H locs hP hD hS => ?_)
      have hP : va_P D vwCl (wd_X1_widen_X5 cyI cyJ cyZ a_this a_upper v_lower (vp_updL v_upper y2.toNatClampNeg ((v_upper y2.toNatClampNeg) * (y1).toInt64))) H := hP
      have hD : va_D A (wd_X1_widen_X5 cyI cyJ cyZ a_this a_upper v_lower (vp_updL v_upper y2.toNatClampNeg ((v_upper y2.toNatClampNeg) * (y1).toInt64))) := hD
      refine lv_iinc (v := (y2 + (1 : Int32))) (lv' := [(2, .int (y2 + (1 : Int32))), (0, .ref a_this), (1, .int y1)]) hx hb dX1_widen_19 hl (k := 2) rfl rfl (by decide) rfl (fun ls hl => ?_)
      refine lv_goto (tgt := 2) hx hb dX1_widen_22 (by decide) ?_
      exact ih (y2 + (1 : Int32)) (vp_updL v_upper y2.toNatClampNeg ((v_upper y2.toNatClampNeg) * (y1).toInt64)) _ _ _ _ hf K hP hD hS (lv_sub hl [1, 2, 0] rfl)
set_option maxHeartbeats 4000000 in
set_option maxRecDepth 100000 in
theorem c_X1_widen_X5 (l : Launch) (D : va_G) (cyI cyJ cyZ : ClassId) (a_this a_upper : Nat) (v_lower : Int64) (v_upper : Nat → Int64) (x1 : Int32) (q : Int64 × (Nat → Int64)) (hf : f_X1_widen_X5 x1 v_lower v_upper = some q) : kMv l yX1_widen wsX1_widen rm_X1_widen_X5 D (kTy cyI cyJ cyZ) [.ref a_this, .int x1] (wd_X1_widen_X5 cyI cyJ cyZ a_this a_upper v_lower v_upper) (wd_X1_widen_X5 cyI cyJ cyZ a_this a_upper q.1 q.2) := by
  refine kMv_of (cc := cX1_widen) (nL := 3) (own := RX1) (by decide) rfl rfl (Nat.le_of_ble_eq_true rfl) ?_
  intro p e s m below meth c A Q ls C hret hP hD hS hl
  have hl : lv_has ls 3 [(0, .ref a_this), (1, .int x1)] := hl
  unfold f_X1_widen_X5 at hf
  obtain ⟨hx, hb, hml, hown, hts, hK, hA⟩ := id C
  have iX5 : ∀ w ∈ u_ws RX5 TX5 2, w ∈ wsX1_widen := by decide +kernel
  have fl15 := hts (.fieldLink RX1 15 "FairSeats$Fractions" "lower" "J") (by decide +kernel)
  refine lv_iconst (v := (0 : Int32)) hx hb dX1_widen_0 (by decide) ?_
  refine lv_istore_n (lv' := [(2, .int (0 : Int32)), (0, .ref a_this), (1, .int x1)]) hx hb dX1_widen_1 rfl hl (by decide) rfl (fun ls hl => ?_)
  obtain ⟨q4, hq4, hf⟩ := ob_bind hf
  refine wl_X1_widen_X5_2 C FU (0 : Int32) v_upper _ _ _ _ hq4 (fun H locs ls hP hD hS hl => ?_) hP hD hS (lv_sub hl [1, 2, 0] rfl)
  refine lv_aload_n hx hb dX1_widen_25 rfl (lv_at hl 0 rfl) ?_
  refine lv_dup hx hb dX1_widen_26 rfl ?_
  refine va_get (D := D) (ci := 4) (v := .long v_lower) (C := RX5) (T := TX5) (N := 2) hx hb hts iX5 hown hK hP 0 rfl rfl 1 (by decide) fl15 (fun _ h9 => h9) rfl dX1_widen_27 ?_
  refine lv_iload_n hx hb dX1_widen_30 rfl (lv_at hl 1 rfl) ?_
  refine lv_i2l (v := (x1).toInt64) hx hb dX1_widen_31 rfl ?_
  refine lv_lmul hx hb dX1_widen_32 ?_
  refine va_put (D := D) (ci := 4) (v := .long (v_lower * (x1).toInt64)) (ty := .long) (C := RX5) (T := TX5) (N := 2) hx hb hts iX5 tyX5 tyX5_ok nmX5 hown hK hP hD hS 0 rfl rfl 1 (by decide) fl15 (fun _ h9 => h9) rfl (by decide +kernel) rfl rfl (Nat.le_of_ble_eq_true rfl) dX1_widen_33 (fun H locs hP hD hS => ?_)
  have hP : va_P D vwCl (wd_X1_widen_X5 cyI cyJ cyZ a_this a_upper (v_lower * (x1).toInt64) q4) H := hP
  have hD : va_D A (wd_X1_widen_X5 cyI cyJ cyZ a_this a_upper (v_lower * (x1).toInt64) q4) := hD
  obtain rfl := Option.some.inj hf
  exact hret _ _ _ _ dX1_widen_36 hP hD hS
abbrev rm_X5_bear : Room := { frames := 2, cells := 0, slots := 0, locals := 47 }
abbrev wd_X5_bear (cyI cyJ cyZ : ClassId) (a_H a_H_sets a_H_papers a_H_worths a_this a_upper : Nat) (v_H_count : Int32) (v_lower : Int64) (v_H_papers : Nat → Int32) (v_H_sets : Nat → Int32) (v_upper : Nat → Int64) : va_W := [(a_H, .inr (2, [.ref a_H_sets, .ref a_H_papers, .ref a_H_worths, .int v_H_count])), (a_this, .inr (4, [.ref a_upper, .long v_lower])), (a_H_papers, .inl (cyI, 7, .inl v_H_papers)), (a_H_sets, .inl (cyI, 7, .inl v_H_sets)), (a_upper, .inl (cyJ, 7, .inr (.inl v_upper)))]
def lp_X5_bear_32 (y2 : Int32) (y4 : Int64) (v_H_count : Int32) (v_H_sets : Nat → Int32) : Nat → Int32 → (Nat → Int64) → Option ((Nat → Int64))
  | 0, _, _ => none
  | n + 1, y6, v_upper => (if v_H_count ≤ y6 then some v_upper else (f_X3_tells y6 y2 v_H_sets).bind (fun q6 => (if q6 = 0 then lp_X5_bear_32 y2 y4 v_H_count v_H_sets n (y6 + (1 : Int32)) v_upper else (if ob_in y6 7 = true then lp_X5_bear_32 y2 y4 v_H_count v_H_sets n (y6 + (1 : Int32)) (vp_updL v_upper y6.toNatClampNeg y4) else none))))
def f_X5_bear (x2 : Int32) (v_H_count : Int32) (v_lower : Int64) (v_H_papers : Nat → Int32) (v_H_sets : Nat → Int32) (v_upper : Nat → Int64) : Option (Int64 × (Nat → Int64)) := (f_X3_telling x2 v_H_count v_H_papers v_H_sets).bind (fun q1 => (if q1 = 0 then some (v_lower, v_upper) else (f_X1_sumOf_X5 x2 v_H_count v_H_papers v_H_sets v_upper).bind (fun q3 => (f_X1_widen_X5 q1 v_lower v_upper).bind (fun q4 => (lp_X5_bear_32 x2 (v_lower + q3) v_H_count v_H_sets FU (0 : Int32) q4.2).bind (fun q9 => some (q4.1, q9))))))
set_option maxHeartbeats 4000000 in
set_option maxRecDepth 100000 in
theorem wl_X5_bear_32 {p : Program} {l : Launch} {e : Env} {s : State} {m : MethodId} {args : Array Value} {below : List Frame} {meth : Method} {c : Code} {A : Nat → Prop} {Q : State → Prop} {D : va_G} {cyI cyJ cyZ : ClassId} {a_H a_H_sets a_H_papers a_H_worths a_this a_upper : Nat} {y2 : Int32} {y4 : Int64} {v_H_count : Int32} {v_lower : Int64} {v_H_papers : Nat → Int32} {v_H_sets : Nat → Int32} (C : kC p s m args c cX5_bear 7 RX5 wsX5_bear D (kTy cyI cyJ cyZ) A) :
    ∀ (n : Nat) (y6 : Int32) (v_upper : Nat → Int64) (q : (Nat → Int64)) (H : Heap) (locs : List Loc) (ls : Array Slot), lp_X5_bear_32 y2 y4 v_H_count v_H_sets n y6 v_upper = some q → (∀ (H : Heap) (locs : List Loc) (ls : Array Slot), va_P D vwCl (wd_X5_bear cyI cyJ cyZ a_H a_H_sets a_H_papers a_H_worths a_this a_upper v_H_count v_lower v_H_papers v_H_sets q) H → va_D A (wd_X5_bear cyI cyJ cyZ a_H a_H_sets a_H_papers a_H_worths a_this a_upper v_H_count v_lower v_H_papers v_H_sets q) → va_S A s.heap H locs → lv_has ls 7 [] → W p l e rm_X5_bear s m args below meth c H locs 0 0 Q (F0 m 66 ls [])) → va_P D vwCl (wd_X5_bear cyI cyJ cyZ a_H a_H_sets a_H_papers a_H_worths a_this a_upper v_H_count v_lower v_H_papers v_H_sets v_upper) H → va_D A (wd_X5_bear cyI cyJ cyZ a_H a_H_sets a_H_papers a_H_worths a_this a_upper v_H_count v_lower v_H_papers v_H_sets v_upper) → va_S A s.heap H locs → lv_has ls 7 [(0, .ref a_this), (1, .ref a_H), (2, .int y2), (4, .long y4), (6, .int y6)] → W p l e rm_X5_bear s m args below meth c H locs 0 0 Q (F0 m 32 ls []) := by
  obtain ⟨hx, hb, hml, hown, hts, hK, hA⟩ := id C
  have iX3 : ∀ w ∈ u_ws RX3 TX3 4, w ∈ wsX5_bear := by decide +kernel
  have iX5 : ∀ w ∈ u_ws RX5 TX5 2, w ∈ wsX5_bear := by decide +kernel
  have fl29 := hts (.fieldLink RX5 29 "FairSeats$Heaps" "count" "I") (by decide +kernel)
  have fl37 := hts (.fieldLink RX5 37 "FairSeats$Loads" "upper" "[J") (by decide +kernel)
  have sfupper := hts (.sameField "FairSeats$Loads" "FairSeats$Fractions" "upper" "[J") (by decide +kernel)
  have cw33 := cwV (R := rm_X5_bear) (rm := rm_X3_tells) 2 hts gX5_bear_X3_tells rfl rfl rfl (by decide +kernel) ⟨Nat.le_of_ble_eq_true rfl, Nat.le_of_ble_eq_true rfl⟩
  intro n
  induction n with
  | zero =>
    intro y6 v_upper q H locs ls hf K hP hD hS hl
    rw [lp_X5_bear_32] at hf
    cases hf
  | succ n ih =>
    intro y6 v_upper q H locs ls hf K hP hD hS hl
    rw [lp_X5_bear_32] at hf
    refine lv_iload hx hb dX5_bear_32 (lv_at hl 4 rfl) ?_
    refine lv_aload_n hx hb dX5_bear_34 rfl (lv_at hl 1 rfl) ?_
    refine va_get (D := D) (ci := 2) (v := .int v_H_count) (C := RX3) (T := TX3) (N := 4) hx hb hts iX3 hown hK hP 0 rfl rfl 3 (by decide) fl29 (fun _ h9 => h9) rfl dX5_bear_35 ?_
    refine lv_icmp_ge (tgt := 66) hx hb dX5_bear_38 (by decide) (fun c5 => ?_) (fun c5 => ?_)
    · have hf := ob_pos c5 hf
      obtain rfl := Option.some.inj hf
      exact K _ _ _ hP hD hS (lv_sub hl [] rfl)
    · have hf := ob_neg c5 hf
      refine lv_aload_n hx hb dX5_bear_41 rfl (lv_at hl 1 rfl) ?_
      refine lv_iload hx hb dX5_bear_42 (lv_at hl 4 rfl) ?_
      refine lv_iload_n hx hb dX5_bear_44 rfl (lv_at hl 2 rfl) ?_
      obtain ⟨q6, hq6, hf⟩ := ob_bind hf
      refine k_Vz (wo := (wd_X5_bear cyI cyJ cyZ a_H a_H_sets a_H_papers a_H_worths a_this a_upper v_H_count v_lower v_H_papers v_H_sets v_upper)) (As := [.int y6, .int y2]) (rest := []) C (c_X3_tells l D cyI cyJ cyZ a_H a_H_sets a_H_papers a_H_worths v_H_count v_H_sets y6 y2 q6 hq6) cw33 hP hD hS [0, 3] [1, 2, 4] [3, 0, 1, 4, 2] rfl rfl rfl (by decide) 0 (ci := 2) rfl rfl rfl rfl rfl hl.1 (Nat.le_of_ble_eq_true rfl) dX5_bear_45 ⟨Nat.zero_le _, Nat.zero_le _⟩ (fun H locs zq6 hP hD hS => ?_)
      refine lv_if_eq (tgt := 60) hx hb dX5_bear_48 (by decide) (fun c7 => ?_) (fun c7 => ?_)
      · have hf := ob_pos c7 hf
        refine lv_iinc (v := (y6 + (1 : Int32))) (lv' := [(6, .int (y6 + (1 : Int32))), (0, .ref a_this), (1, .ref a_H), (2, .int y2), (4, .long y4)]) hx hb dX5_bear_60 hl (k := 4) rfl rfl (by decide) rfl (fun ls hl => ?_)
        refine lv_goto (tgt := 32) hx hb dX5_bear_63 (by decide) ?_
        exact ih (y6 + (1 : Int32)) v_upper _ _ _ _ hf K hP hD hS (lv_sub hl [1, 2, 3, 4, 0] rfl)
      · have hf := ob_neg c7 hf
        refine lv_aload_n hx hb dX5_bear_51 rfl (lv_at hl 0 rfl) ?_
        refine va_get (D := D) (ci := 4) (v := .ref a_upper) (C := RX5) (T := TX5) (N := 2) hx hb hts iX5 hown hK hP 1 rfl rfl 0 (by decide) fl37 (fun x9 h9 => u_same sfupper x9 h9) rfl dX5_bear_52 ?_
        refine lv_iload hx hb dX5_bear_55 (lv_at hl 4 rfl) ?_
        refine lv_lload hx hb dX5_bear_57 (lv_at hl 3 rfl) ?_
        obtain ⟨h8, hf⟩ := og_in hf
        refine va_last hx hb hK hP hD hS 4 1 rfl rfl h8 dX5_bear_59 (fun H locs hP hD hS => ?_)
        have hP : va_P D vwCl (wd_X5_bear cyI cyJ cyZ a_H a_H_sets a_H_papers a_H_worths a_this a_upper v_H_count v_lower v_H_papers v_H_sets (vp_updL v_upper y6.toNatClampNeg y4)) H := hP
        have hD : va_D A (wd_X5_bear cyI cyJ cyZ a_H a_H_sets a_H_papers a_H_worths a_this a_upper v_H_count v_lower v_H_papers v_H_sets (vp_updL v_upper y6.toNatClampNeg y4)) := hD
        refine lv_iinc (v := (y6 + (1 : Int32))) (lv' := [(6, .int (y6 + (1 : Int32))), (0, .ref a_this), (1, .ref a_H), (2, .int y2), (4, .long y4)]) hx hb dX5_bear_60 hl (k := 4) rfl rfl (by decide) rfl (fun ls hl => ?_)
        refine lv_goto (tgt := 32) hx hb dX5_bear_63 (by decide) ?_
        exact ih (y6 + (1 : Int32)) (vp_updL v_upper y6.toNatClampNeg y4) _ _ _ _ hf K hP hD hS (lv_sub hl [1, 2, 3, 4, 0] rfl)
set_option maxHeartbeats 4000000 in
set_option maxRecDepth 100000 in
theorem c_X5_bear (l : Launch) (D : va_G) (cyI cyJ cyZ : ClassId) (a_H a_H_sets a_H_papers a_H_worths a_this a_upper : Nat) (v_H_count : Int32) (v_lower : Int64) (v_H_papers : Nat → Int32) (v_H_sets : Nat → Int32) (v_upper : Nat → Int64) (x2 : Int32) (q : Int64 × (Nat → Int64)) (hf : f_X5_bear x2 v_H_count v_lower v_H_papers v_H_sets v_upper = some q) : kMv l yX5_bear wsX5_bear rm_X5_bear D (kTy cyI cyJ cyZ) [.ref a_this, .ref a_H, .int x2] (wd_X5_bear cyI cyJ cyZ a_H a_H_sets a_H_papers a_H_worths a_this a_upper v_H_count v_lower v_H_papers v_H_sets v_upper) (wd_X5_bear cyI cyJ cyZ a_H a_H_sets a_H_papers a_H_worths a_this a_upper v_H_count q.1 v_H_papers v_H_sets q.2) := by
  refine kMv_of (cc := cX5_bear) (nL := 7) (own := RX5) (by decide) rfl rfl (Nat.le_of_ble_eq_true rfl) ?_
  intro p e s m below meth c A Q ls C hret hP hD hS hl
  have hl : lv_has ls 7 [(0, .ref a_this), (1, .ref a_H), (2, .int x2)] := hl
  unfold f_X5_bear at hf
  obtain ⟨hx, hb, hml, hown, hts, hK, hA⟩ := id C
  have iX5 : ∀ w ∈ u_ws RX5 TX5 2, w ∈ wsX5_bear := by decide +kernel
  have fl15 := hts (.fieldLink RX5 15 "FairSeats$Loads" "lower" "J") (by decide +kernel)
  have sflower := hts (.sameField "FairSeats$Loads" "FairSeats$Fractions" "lower" "J") (by decide +kernel)
  have cw9 := cwV (R := rm_X5_bear) (rm := rm_X3_telling) 1 hts gX5_bear_X3_telling rfl rfl rfl (by decide +kernel) ⟨Nat.le_of_ble_eq_true rfl, Nat.le_of_ble_eq_true rfl⟩
  have cw21 := va_cwU (R := rm_X5_bear) (rm := rm_X1_sumOf_X5) 2 hts gX5_bear_X1_sumOf_u21X5 rfl rfl rfl rfl (by decide +kernel) ⟨Nat.le_of_ble_eq_true rfl, Nat.le_of_ble_eq_true rfl⟩
  have cw25 := va_cwU (R := rm_X5_bear) (rm := rm_X1_widen_X5) 1 hts gX5_bear_X1_widen_u25X5 rfl rfl rfl rfl (by decide +kernel) ⟨Nat.le_of_ble_eq_true rfl, Nat.le_of_ble_eq_true rfl⟩
  refine lv_aload_n hx hb dX5_bear_0 rfl (lv_at hl 1 rfl) ?_
  refine lv_iload_n hx hb dX5_bear_1 rfl (lv_at hl 2 rfl) ?_
  obtain ⟨q1, hq1, hf⟩ := ob_bind hf
  refine k_Vi (wo := (wd_X5_bear cyI cyJ cyZ a_H a_H_sets a_H_papers a_H_worths a_this a_upper v_H_count v_lower v_H_papers v_H_sets v_upper)) (As := [.int x2]) (rest := []) C (c_X3_telling l D cyI cyJ cyZ a_H a_H_sets a_H_papers a_H_worths v_H_count v_H_papers v_H_sets x2 q1 hq1) cw9 hP hD hS [0, 2, 3] [1, 4] [2, 0, 3, 4, 1] rfl rfl rfl (by decide) 0 (ci := 2) rfl rfl rfl rfl rfl hl.1 (Nat.le_of_ble_eq_true rfl) dX5_bear_2 ⟨Nat.zero_le _, Nat.zero_le _⟩ (fun H locs hP hD hS => ?_)
  refine lv_istore_n (lv' := [(3, .int q1), (0, .ref a_this), (1, .ref a_H), (2, .int x2)]) hx hb dX5_bear_5 rfl hl (by decide) rfl (fun ls hl => ?_)
  refine lv_iload_n hx hb dX5_bear_6 rfl (lv_at hl 0 rfl) ?_
  refine lv_if_ne (tgt := 11) hx hb dX5_bear_7 (by decide) (fun c2 => ?_) (fun c2 => ?_)
  · have hf := ob_neg c2 hf
    refine lv_aload_n hx hb dX5_bear_11 rfl (lv_at hl 1 rfl) ?_
    refine va_get (D := D) (ci := 4) (v := .long v_lower) (C := RX5) (T := TX5) (N := 2) hx hb hts iX5 hown hK hP 1 rfl rfl 1 (by decide) fl15 (fun x9 h9 => u_same sflower x9 h9) rfl dX5_bear_12 ?_
    refine lv_aload_n hx hb dX5_bear_15 rfl (lv_at hl 1 rfl) ?_
    refine lv_aload_n hx hb dX5_bear_16 rfl (lv_at hl 2 rfl) ?_
    refine lv_iload_n hx hb dX5_bear_17 rfl (lv_at hl 3 rfl) ?_
    obtain ⟨q3, hq3, hf⟩ := ob_bind hf
    refine k_Ul (wo := (wd_X5_bear cyI cyJ cyZ a_H a_H_sets a_H_papers a_H_worths a_this a_upper v_H_count v_lower v_H_papers v_H_sets v_upper)) (As := [.ref a_H, .int x2]) (rest := [.long v_lower]) C (c_X1_sumOf_X5 l D cyI cyJ cyZ a_H a_H_sets a_H_papers a_H_worths a_this a_upper v_H_count v_lower v_H_papers v_H_sets v_upper x2 q3 hq3) cw21 hP hD hS [0, 1, 2, 3, 4] [] [0, 1, 2, 3, 4] rfl rfl rfl (by decide) 1 (ci := 4) rfl rfl rfl rfl rfl hl.1 (Nat.le_of_ble_eq_true rfl) dX5_bear_18 ⟨Nat.zero_le _, Nat.zero_le _⟩ (fun H locs hP hD hS => ?_)
    refine lv_ladd hx hb dX5_bear_21 ?_
    refine lv_lstore (lv' := [(4, .long (v_lower + q3)), (3, .int q1), (0, .ref a_this), (1, .ref a_H), (2, .int x2)]) hx hb dX5_bear_22 hl (by decide) rfl (fun ls hl => ?_)
    refine lv_aload_n hx hb dX5_bear_24 rfl (lv_at hl 2 rfl) ?_
    refine lv_iload_n hx hb dX5_bear_25 rfl (lv_at hl 1 rfl) ?_
    obtain ⟨q4, hq4, hf⟩ := ob_bind hf
    refine k_Uv (wo := (wd_X5_bear cyI cyJ cyZ a_H a_H_sets a_H_papers a_H_worths a_this a_upper v_H_count q4.1 v_H_papers v_H_sets q4.2)) (As := [.int q1]) (rest := []) C (c_X1_widen_X5 l D cyI cyJ cyZ a_this a_upper v_lower v_upper q1 q4 hq4) cw25 hP hD hS [1, 4] [0, 2, 3] [0, 3, 1, 2, 4] rfl rfl rfl (by decide) 0 (ci := 4) rfl rfl rfl rfl rfl hl.1 (Nat.le_of_ble_eq_true rfl) dX5_bear_26 ⟨Nat.zero_le _, Nat.zero_le _⟩ (fun H locs hP hD hS => ?_)
    refine lv_iconst (v := (0 : Int32)) hx hb dX5_bear_29 (by decide) ?_
    refine lv_istore (lv' := [(6, .int (0 : Int32)), (4, .long (v_lower + q3)), (3, .int q1), (0, .ref a_this), (1, .ref a_H), (2, .int x2)]) hx hb dX5_bear_30 hl (by decide) rfl (fun ls hl => ?_)
    obtain ⟨q9, hq9, hf⟩ := ob_bind hf
    refine wl_X5_bear_32 C FU (0 : Int32) q4.2 _ _ _ _ hq9 (fun H locs ls hP hD hS hl => ?_) hP hD hS (lv_sub hl [3, 4, 5, 1, 0] rfl)
    obtain rfl := Option.some.inj hf
    exact hret _ _ _ _ dX5_bear_66 hP hD hS
  · have hf := ob_pos c2 hf
    obtain rfl := Option.some.inj hf
    exact hret _ _ _ _ dX5_bear_10 hP hD hS
abbrev rm_X1_begin_X6 : Room := { frames := 0, cells := 0, slots := 0, locals := 0 }
abbrev wd_X1_begin_X6 (cyI cyJ cyZ : ClassId) (a_this a_upper : Nat) (v_lower : Int64) (v_rest : Int64) (v_payers : Int32) (v_upper : Nat → Int64) : va_W := [(a_this, .inr (5, [.ref a_upper, .long v_lower, .long v_rest, .int v_payers])), (a_upper, .inl (cyJ, 7, .inr (.inl v_upper)))]
def lp_X1_begin_X6_2 (y1 : Int32) : Nat → Int32 → (Nat → Int64) → Option ((Nat → Int64))
  | 0, _, _ => none
  | n + 1, y2, v_upper => (if (6 : Int32) < y2 then some v_upper else (if ob_in y2 7 = true then lp_X1_begin_X6_2 y1 n (y2 + (1 : Int32)) (vp_updL v_upper y2.toNatClampNeg ((y1).toInt64)) else none))
def f_X1_begin_X6 (x1 : Int32) (v_lower : Int64) (v_upper : Nat → Int64) : Option (Int64 × (Nat → Int64)) := (lp_X1_begin_X6_2 x1 FU (0 : Int32) v_upper).bind (fun q3 => some ((1 : Int64), q3))
set_option maxHeartbeats 4000000 in
set_option maxRecDepth 100000 in
theorem wl_X1_begin_X6_2 {p : Program} {l : Launch} {e : Env} {s : State} {m : MethodId} {args : Array Value} {below : List Frame} {meth : Method} {c : Code} {A : Nat → Prop} {Q : State → Prop} {D : va_G} {cyI cyJ cyZ : ClassId} {a_this a_upper : Nat} {y1 : Int32} {v_lower : Int64} {v_rest : Int64} {v_payers : Int32} (C : kC p s m args c cX1_begin 3 RX1 wsX1_begin D (kTy cyI cyJ cyZ) A) :
    ∀ (n : Nat) (y2 : Int32) (v_upper : Nat → Int64) (q : (Nat → Int64)) (H : Heap) (locs : List Loc) (ls : Array Slot), lp_X1_begin_X6_2 y1 n y2 v_upper = some q → (∀ (H : Heap) (locs : List Loc) (ls : Array Slot), va_P D vwCl (wd_X1_begin_X6 cyI cyJ cyZ a_this a_upper v_lower v_rest v_payers q) H → va_D A (wd_X1_begin_X6 cyI cyJ cyZ a_this a_upper v_lower v_rest v_payers q) → va_S A s.heap H locs → lv_has ls 3 [(0, .ref a_this)] → W p l e rm_X1_begin_X6 s m args below meth c H locs 0 0 Q (F0 m 22 ls [])) → va_P D vwCl (wd_X1_begin_X6 cyI cyJ cyZ a_this a_upper v_lower v_rest v_payers v_upper) H → va_D A (wd_X1_begin_X6 cyI cyJ cyZ a_this a_upper v_lower v_rest v_payers v_upper) → va_S A s.heap H locs → lv_has ls 3 [(0, .ref a_this), (1, .int y1), (2, .int y2)] → W p l e rm_X1_begin_X6 s m args below meth c H locs 0 0 Q (F0 m 2 ls []) := by
  obtain ⟨hx, hb, hml, hown, hts, hK, hA⟩ := id C
  have iX6 : ∀ w ∈ u_ws RX6 TX6 4, w ∈ wsX1_begin := by decide +kernel
  have fl9 := hts (.fieldLink RX1 9 "FairSeats$Fractions" "upper" "[J") (by decide +kernel)
  intro n
  induction n with
  | zero =>
    intro y2 v_upper q H locs ls hf K hP hD hS hl
    rw [lp_X1_begin_X6_2] at hf
    cases hf
  | succ n ih =>
    intro y2 v_upper q H locs ls hf K hP hD hS hl
    rw [lp_X1_begin_X6_2] at hf
    refine lv_iload_n hx hb dX1_begin_2 rfl (lv_at hl 2 rfl) ?_
    refine lv_bipush (v := (6 : Int32)) hx hb dX1_begin_3 (by decide) ?_
    refine lv_icmp_gt (tgt := 22) hx hb dX1_begin_5 (by decide) (fun c1 => ?_) (fun c1 => ?_)
    · have hf := ob_pos c1 hf
      obtain rfl := Option.some.inj hf
      exact K _ _ _ hP hD hS (lv_sub hl [0] rfl)
    · have hf := ob_neg c1 hf
      refine lv_aload_n hx hb dX1_begin_8 rfl (lv_at hl 0 rfl) ?_
      refine va_get (D := D) (ci := 5) (v := .ref a_upper) (C := RX6) (T := TX6) (N := 4) hx hb hts iX6 hown hK hP 0 rfl rfl 0 (by decide) fl9 (fun _ h9 => h9) rfl dX1_begin_9 ?_
      refine lv_iload_n hx hb dX1_begin_12 rfl (lv_at hl 2 rfl) ?_
      refine lv_iload_n hx hb dX1_begin_13 rfl (lv_at hl 1 rfl) ?_
      refine lv_i2l (v := (y1).toInt64) hx hb dX1_begin_14 rfl ?_
      obtain ⟨h2, hf⟩ := og_in hf
      refine va_last hx hb hK hP hD hS 1 1 rfl rfl h2 dX1_begin_15 (fun H locs hP hD hS => ?_)
      have hP : va_P D vwCl (wd_X1_begin_X6 cyI cyJ cyZ a_this a_upper v_lower v_rest v_payers (vp_updL v_upper y2.toNatClampNeg ((y1).toInt64))) H := hP
      have hD : va_D A (wd_X1_begin_X6 cyI cyJ cyZ a_this a_upper v_lower v_rest v_payers (vp_updL v_upper y2.toNatClampNeg ((y1).toInt64))) := hD
      refine lv_iinc (v := (y2 + (1 : Int32))) (lv' := [(2, .int (y2 + (1 : Int32))), (0, .ref a_this), (1, .int y1)]) hx hb dX1_begin_16 hl (k := 2) rfl rfl (by decide) rfl (fun ls hl => ?_)
      refine lv_goto (tgt := 2) hx hb dX1_begin_19 (by decide) ?_
      exact ih (y2 + (1 : Int32)) (vp_updL v_upper y2.toNatClampNeg ((y1).toInt64)) _ _ _ _ hf K hP hD hS (lv_sub hl [1, 2, 0] rfl)
set_option maxHeartbeats 4000000 in
set_option maxRecDepth 100000 in
theorem c_X1_begin_X6 (l : Launch) (D : va_G) (cyI cyJ cyZ : ClassId) (a_this a_upper : Nat) (v_lower : Int64) (v_rest : Int64) (v_payers : Int32) (v_upper : Nat → Int64) (x1 : Int32) (q : Int64 × (Nat → Int64)) (hf : f_X1_begin_X6 x1 v_lower v_upper = some q) : kMv l yX1_begin wsX1_begin rm_X1_begin_X6 D (kTy cyI cyJ cyZ) [.ref a_this, .int x1] (wd_X1_begin_X6 cyI cyJ cyZ a_this a_upper v_lower v_rest v_payers v_upper) (wd_X1_begin_X6 cyI cyJ cyZ a_this a_upper q.1 v_rest v_payers q.2) := by
  refine kMv_of (cc := cX1_begin) (nL := 3) (own := RX1) (by decide) rfl rfl (Nat.le_of_ble_eq_true rfl) ?_
  intro p e s m below meth c A Q ls C hret hP hD hS hl
  have hl : lv_has ls 3 [(0, .ref a_this), (1, .int x1)] := hl
  unfold f_X1_begin_X6 at hf
  obtain ⟨hx, hb, hml, hown, hts, hK, hA⟩ := id C
  have iX6 : ∀ w ∈ u_ws RX6 TX6 4, w ∈ wsX1_begin := by decide +kernel
  have fl15 := hts (.fieldLink RX1 15 "FairSeats$Fractions" "lower" "J") (by decide +kernel)
  refine lv_iconst (v := (0 : Int32)) hx hb dX1_begin_0 (by decide) ?_
  refine lv_istore_n (lv' := [(2, .int (0 : Int32)), (0, .ref a_this), (1, .int x1)]) hx hb dX1_begin_1 rfl hl (by decide) rfl (fun ls hl => ?_)
  obtain ⟨q3, hq3, hf⟩ := ob_bind hf
  refine wl_X1_begin_X6_2 C FU (0 : Int32) v_upper _ _ _ _ hq3 (fun H locs ls hP hD hS hl => ?_) hP hD hS (lv_sub hl [1, 2, 0] rfl)
  refine lv_aload_n hx hb dX1_begin_22 rfl (lv_at hl 0 rfl) ?_
  refine lv_lconst (v := 1) hx hb dX1_begin_23 (by decide) ?_
  refine va_put (D := D) (ci := 5) (v := .long (1 : Int64)) (ty := .long) (C := RX6) (T := TX6) (N := 4) hx hb hts iX6 tyX6 tyX6_ok nmX6 hown hK hP hD hS 0 rfl rfl 1 (by decide) fl15 (fun _ h9 => h9) rfl (by decide +kernel) rfl rfl (Nat.le_of_ble_eq_true rfl) dX1_begin_24 (fun H locs hP hD hS => ?_)
  have hP : va_P D vwCl (wd_X1_begin_X6 cyI cyJ cyZ a_this a_upper (1 : Int64) v_rest v_payers q3) H := hP
  have hD : va_D A (wd_X1_begin_X6 cyI cyJ cyZ a_this a_upper (1 : Int64) v_rest v_payers q3) := hD
  obtain rfl := Option.some.inj hf
  exact hret _ _ _ _ dX1_begin_27 hP hD hS
abbrev rm_X1_sumOf_X6 : Room := { frames := 1, cells := 0, slots := 0, locals := 22 }
abbrev wd_X1_sumOf_X6 (cyI cyJ cyZ : ClassId) (a_H a_H_sets a_H_papers a_H_worths a_this a_upper : Nat) (v_H_count : Int32) (v_lower : Int64) (v_rest : Int64) (v_payers : Int32) (v_H_papers : Nat → Int32) (v_H_sets : Nat → Int32) (v_upper : Nat → Int64) : va_W := [(a_H, .inr (2, [.ref a_H_sets, .ref a_H_papers, .ref a_H_worths, .int v_H_count])), (a_this, .inr (5, [.ref a_upper, .long v_lower, .long v_rest, .int v_payers])), (a_H_papers, .inl (cyI, 7, .inl v_H_papers)), (a_H_sets, .inl (cyI, 7, .inl v_H_sets)), (a_upper, .inl (cyJ, 7, .inr (.inl v_upper)))]
def lp_X1_sumOf_X6_5 (y2 : Int32) (v_H_count : Int32) (v_H_papers : Nat → Int32) (v_H_sets : Nat → Int32) (v_upper : Nat → Int64) : Nat → Int64 → Int32 → Option (Int64)
  | 0, _, _ => none
  | n + 1, y3, y5 => (if v_H_count ≤ y5 then some y3 else (f_X3_tells y5 y2 v_H_sets).bind (fun q2 => (if q2 = 0 then lp_X1_sumOf_X6_5 y2 v_H_count v_H_papers v_H_sets v_upper n y3 (y5 + (1 : Int32)) else (if ob_in y5 7 = true then (if ob_in y5 7 = true then lp_X1_sumOf_X6_5 y2 v_H_count v_H_papers v_H_sets v_upper n (y3 + ((v_upper y5.toNatClampNeg) * ((v_H_papers y5.toNatClampNeg)).toInt64)) (y5 + (1 : Int32)) else none) else none))))
def f_X1_sumOf_X6 (x2 : Int32) (v_H_count : Int32) (v_H_papers : Nat → Int32) (v_H_sets : Nat → Int32) (v_upper : Nat → Int64) : Option (Int64) := (lp_X1_sumOf_X6_5 x2 v_H_count v_H_papers v_H_sets v_upper FU (0 : Int64) (0 : Int32)).bind (fun q6 => some q6)
set_option maxHeartbeats 4000000 in
set_option maxRecDepth 100000 in
theorem wl_X1_sumOf_X6_5 {p : Program} {l : Launch} {e : Env} {s : State} {m : MethodId} {args : Array Value} {below : List Frame} {meth : Method} {c : Code} {A : Nat → Prop} {Q : State → Prop} {D : va_G} {cyI cyJ cyZ : ClassId} {a_H a_H_sets a_H_papers a_H_worths a_this a_upper : Nat} {y2 : Int32} {v_H_count : Int32} {v_lower : Int64} {v_rest : Int64} {v_payers : Int32} {v_H_papers : Nat → Int32} {v_H_sets : Nat → Int32} {v_upper : Nat → Int64} (C : kC p s m args c cX1_sumOf 6 RX1 wsX1_sumOf D (kTy cyI cyJ cyZ) A) :
    ∀ (n : Nat) (y3 : Int64) (y5 : Int32) (q : Int64) (H : Heap) (locs : List Loc) (ls : Array Slot), lp_X1_sumOf_X6_5 y2 v_H_count v_H_papers v_H_sets v_upper n y3 y5 = some q → (∀ (H : Heap) (locs : List Loc) (ls : Array Slot), va_P D vwCl (wd_X1_sumOf_X6 cyI cyJ cyZ a_H a_H_sets a_H_papers a_H_worths a_this a_upper v_H_count v_lower v_rest v_payers v_H_papers v_H_sets v_upper) H → va_D A (wd_X1_sumOf_X6 cyI cyJ cyZ a_H a_H_sets a_H_papers a_H_worths a_this a_upper v_H_count v_lower v_rest v_payers v_H_papers v_H_sets v_upper) → va_S A s.heap H locs → lv_has ls 6 [(3, .long q)] → W p l e rm_X1_sumOf_X6 s m args below meth c H locs 0 0 Q (F0 m 49 ls [])) → va_P D vwCl (wd_X1_sumOf_X6 cyI cyJ cyZ a_H a_H_sets a_H_papers a_H_worths a_this a_upper v_H_count v_lower v_rest v_payers v_H_papers v_H_sets v_upper) H → va_D A (wd_X1_sumOf_X6 cyI cyJ cyZ a_H a_H_sets a_H_papers a_H_worths a_this a_upper v_H_count v_lower v_rest v_payers v_H_papers v_H_sets v_upper) → va_S A s.heap H locs → lv_has ls 6 [(0, .ref a_this), (1, .ref a_H), (2, .int y2), (3, .long y3), (5, .int y5)] → W p l e rm_X1_sumOf_X6 s m args below meth c H locs 0 0 Q (F0 m 5 ls []) := by
  obtain ⟨hx, hb, hml, hown, hts, hK, hA⟩ := id C
  have iX3 : ∀ w ∈ u_ws RX3 TX3 4, w ∈ wsX1_sumOf := by decide +kernel
  have iX6 : ∀ w ∈ u_ws RX6 TX6 4, w ∈ wsX1_sumOf := by decide +kernel
  have fl9 := hts (.fieldLink RX1 9 "FairSeats$Fractions" "upper" "[J") (by decide +kernel)
  have fl19 := hts (.fieldLink RX1 19 "FairSeats$Heaps" "count" "I") (by decide +kernel)
  have fl29 := hts (.fieldLink RX1 29 "FairSeats$Heaps" "papers" "[I") (by decide +kernel)
  have cw25 := cwV (R := rm_X1_sumOf_X6) (rm := rm_X3_tells) 2 hts gX1_sumOf_X3_tells rfl rfl rfl (by decide +kernel) ⟨Nat.le_of_ble_eq_true rfl, Nat.le_of_ble_eq_true rfl⟩
  intro n
  induction n with
  | zero =>
    intro y3 y5 q H locs ls hf K hP hD hS hl
    rw [lp_X1_sumOf_X6_5] at hf
    cases hf
  | succ n ih =>
    intro y3 y5 q H locs ls hf K hP hD hS hl
    rw [lp_X1_sumOf_X6_5] at hf
    refine lv_iload hx hb dX1_sumOf_5 (lv_at hl 4 rfl) ?_
    refine lv_aload_n hx hb dX1_sumOf_7 rfl (lv_at hl 1 rfl) ?_
    refine va_get (D := D) (ci := 2) (v := .int v_H_count) (C := RX3) (T := TX3) (N := 4) hx hb hts iX3 hown hK hP 0 rfl rfl 3 (by decide) fl19 (fun _ h9 => h9) rfl dX1_sumOf_8 ?_
    refine lv_icmp_ge (tgt := 49) hx hb dX1_sumOf_11 (by decide) (fun c1 => ?_) (fun c1 => ?_)
    · have hf := ob_pos c1 hf
      obtain rfl := Option.some.inj hf
      exact K _ _ _ hP hD hS (lv_sub hl [3] rfl)
    · have hf := ob_neg c1 hf
      refine lv_aload_n hx hb dX1_sumOf_14 rfl (lv_at hl 1 rfl) ?_
      refine lv_iload hx hb dX1_sumOf_15 (lv_at hl 4 rfl) ?_
      refine lv_iload_n hx hb dX1_sumOf_17 rfl (lv_at hl 2 rfl) ?_
      obtain ⟨q2, hq2, hf⟩ := ob_bind hf
      refine k_Vz (wo := (wd_X1_sumOf_X6 cyI cyJ cyZ a_H a_H_sets a_H_papers a_H_worths a_this a_upper v_H_count v_lower v_rest v_payers v_H_papers v_H_sets v_upper)) (As := [.int y5, .int y2]) (rest := []) C (c_X3_tells l D cyI cyJ cyZ a_H a_H_sets a_H_papers a_H_worths v_H_count v_H_sets y5 y2 q2 hq2) cw25 hP hD hS [0, 3] [1, 2, 4] [3, 0, 1, 4, 2] rfl rfl rfl (by decide) 0 (ci := 2) rfl rfl rfl rfl rfl hl.1 (Nat.le_of_ble_eq_true rfl) dX1_sumOf_18 ⟨Nat.zero_le _, Nat.zero_le _⟩ (fun H locs zq2 hP hD hS => ?_)
      refine lv_if_eq (tgt := 43) hx hb dX1_sumOf_21 (by decide) (fun c3 => ?_) (fun c3 => ?_)
      · have hf := ob_pos c3 hf
        refine lv_iinc (v := (y5 + (1 : Int32))) (lv' := [(5, .int (y5 + (1 : Int32))), (0, .ref a_this), (1, .ref a_H), (2, .int y2), (3, .long y3)]) hx hb dX1_sumOf_43 hl (k := 4) rfl rfl (by decide) rfl (fun ls hl => ?_)
        refine lv_goto (tgt := 5) hx hb dX1_sumOf_46 (by decide) ?_
        exact ih y3 (y5 + (1 : Int32)) _ _ _ _ hf K hP hD hS (lv_sub hl [1, 2, 3, 4, 0] rfl)
      · have hf := ob_neg c3 hf
        refine lv_lload_n hx hb dX1_sumOf_24 rfl (lv_at hl 3 rfl) ?_
        refine lv_aload_n hx hb dX1_sumOf_25 rfl (lv_at hl 0 rfl) ?_
        refine va_get (D := D) (ci := 5) (v := .ref a_upper) (C := RX6) (T := TX6) (N := 4) hx hb hts iX6 hown hK hP 1 rfl rfl 0 (by decide) fl9 (fun _ h9 => h9) rfl dX1_sumOf_26 ?_
        refine lv_iload hx hb dX1_sumOf_29 (lv_at hl 4 rfl) ?_
        obtain ⟨h4, hf⟩ := og_in hf
        refine va_lald hx hb hK hP 4 1 rfl rfl h4 dX1_sumOf_31 ?_
        refine lv_aload_n hx hb dX1_sumOf_32 rfl (lv_at hl 1 rfl) ?_
        refine va_get (D := D) (ci := 2) (v := .ref a_H_papers) (C := RX3) (T := TX3) (N := 4) hx hb hts iX3 hown hK hP 0 rfl rfl 1 (by decide) fl29 (fun _ h9 => h9) rfl dX1_sumOf_33 ?_
        refine lv_iload hx hb dX1_sumOf_36 (lv_at hl 4 rfl) ?_
        obtain ⟨h5, hf⟩ := og_in hf
        refine va_iald hx hb hK hP 2 0 rfl rfl h5 dX1_sumOf_38 ?_
        refine lv_i2l (v := ((v_H_papers y5.toNatClampNeg)).toInt64) hx hb dX1_sumOf_39 rfl ?_
        refine lv_lmul hx hb dX1_sumOf_40 ?_
        refine lv_ladd hx hb dX1_sumOf_41 ?_
        refine lv_lstore_n (lv' := [(3, .long (y3 + ((v_upper y5.toNatClampNeg) * ((v_H_papers y5.toNatClampNeg)).toInt64))), (0, .ref a_this), (1, .ref a_H), (2, .int y2), (5, .int y5)]) hx hb dX1_sumOf_42 rfl hl (by decide) rfl (fun ls hl => ?_)
        refine lv_iinc (v := (y5 + (1 : Int32))) (lv' := [(5, .int (y5 + (1 : Int32))), (3, .long (y3 + ((v_upper y5.toNatClampNeg) * ((v_H_papers y5.toNatClampNeg)).toInt64))), (0, .ref a_this), (1, .ref a_H), (2, .int y2)]) hx hb dX1_sumOf_43 hl (k := 4) rfl rfl (by decide) rfl (fun ls hl => ?_)
        refine lv_goto (tgt := 5) hx hb dX1_sumOf_46 (by decide) ?_
        exact ih (y3 + ((v_upper y5.toNatClampNeg) * ((v_H_papers y5.toNatClampNeg)).toInt64)) (y5 + (1 : Int32)) _ _ _ _ hf K hP hD hS (lv_sub hl [2, 3, 4, 1, 0] rfl)
set_option maxHeartbeats 4000000 in
set_option maxRecDepth 100000 in
theorem c_X1_sumOf_X6 (l : Launch) (D : va_G) (cyI cyJ cyZ : ClassId) (a_H a_H_sets a_H_papers a_H_worths a_this a_upper : Nat) (v_H_count : Int32) (v_lower : Int64) (v_rest : Int64) (v_payers : Int32) (v_H_papers : Nat → Int32) (v_H_sets : Nat → Int32) (v_upper : Nat → Int64) (x2 : Int32) (q : Int64) (hf : f_X1_sumOf_X6 x2 v_H_count v_H_papers v_H_sets v_upper = some q) : kMl l yX1_sumOf wsX1_sumOf rm_X1_sumOf_X6 D (kTy cyI cyJ cyZ) [.ref a_this, .ref a_H, .int x2] (wd_X1_sumOf_X6 cyI cyJ cyZ a_H a_H_sets a_H_papers a_H_worths a_this a_upper v_H_count v_lower v_rest v_payers v_H_papers v_H_sets v_upper) (wd_X1_sumOf_X6 cyI cyJ cyZ a_H a_H_sets a_H_papers a_H_worths a_this a_upper v_H_count v_lower v_rest v_payers v_H_papers v_H_sets v_upper) q := by
  refine kMl_of (cc := cX1_sumOf) (nL := 6) (own := RX1) (by decide) rfl rfl (Nat.le_of_ble_eq_true rfl) ?_
  intro p e s m below meth c A Q ls C hret hP hD hS hl
  have hl : lv_has ls 6 [(0, .ref a_this), (1, .ref a_H), (2, .int x2)] := hl
  unfold f_X1_sumOf_X6 at hf
  obtain ⟨hx, hb, hml, hown, hts, hK, hA⟩ := id C
  refine lv_lconst (v := 0) hx hb dX1_sumOf_0 (by decide) ?_
  refine lv_lstore_n (lv' := [(3, .long (0 : Int64)), (0, .ref a_this), (1, .ref a_H), (2, .int x2)]) hx hb dX1_sumOf_1 rfl hl (by decide) rfl (fun ls hl => ?_)
  refine lv_iconst (v := (0 : Int32)) hx hb dX1_sumOf_2 (by decide) ?_
  refine lv_istore (lv' := [(5, .int (0 : Int32)), (3, .long (0 : Int64)), (0, .ref a_this), (1, .ref a_H), (2, .int x2)]) hx hb dX1_sumOf_3 hl (by decide) rfl (fun ls hl => ?_)
  obtain ⟨q6, hq6, hf⟩ := ob_bind hf
  refine wl_X1_sumOf_X6_5 C FU (0 : Int64) (0 : Int32) _ _ _ _ hq6 (fun H locs ls hP hD hS hl => ?_) hP hD hS (lv_sub hl [2, 3, 4, 1, 0] rfl)
  refine lv_lload_n hx hb dX1_sumOf_49 rfl (lv_at hl 0 rfl) ?_
  obtain rfl := Option.some.inj hf
  exact hret _ _ _ _ dX1_sumOf_50 hP hD hS
abbrev rm_X6_price : Room := { frames := 2, cells := 0, slots := 0, locals := 45 }
abbrev wd_X6_price (cyI cyJ cyZ : ClassId) (a_H a_H_sets a_H_papers a_H_worths a_this a_upper : Nat) (v_H_count : Int32) (v_lower : Int64) (v_rest : Int64) (v_payers : Int32) (v_H_papers : Nat → Int32) (v_H_sets : Nat → Int32) (v_upper : Nat → Int64) : va_W := [(a_H, .inr (2, [.ref a_H_sets, .ref a_H_papers, .ref a_H_worths, .int v_H_count])), (a_this, .inr (5, [.ref a_upper, .long v_lower, .long v_rest, .int v_payers])), (a_H_papers, .inl (cyI, 7, .inl v_H_papers)), (a_H_sets, .inl (cyI, 7, .inl v_H_sets)), (a_upper, .inl (cyJ, 7, .inr (.inl v_upper)))]
def lp_X6_price_48 (y2 : Int32) (y3 : Int32) (y4 : Int64) (y6 : Int32) (v_H_count : Int32) (v_rest : Int64) (v_payers : Int32) (v_H_papers : Nat → Int32) (v_H_sets : Nat → Int32) (v_upper : Nat → Int64) : Nat → Int64 → Int32 → Int32 → Option (Int64 × Int32)
  | 0, _, _, _ => none
  | n + 1, y7, y9, y10 => (if v_H_count ≤ y10 then some (y7, y9) else (f_X3_tells y10 y2 v_H_sets).bind (fun q5 => (if q5 = 0 then lp_X6_price_48 y2 y3 y4 y6 v_H_count v_rest v_payers v_H_papers v_H_sets v_upper n y7 y9 (y10 + (1 : Int32)) else (if ob_in y10 7 = true then (if 0 ≤ (lg_cmp ((v_upper y10.toNatClampNeg) * (v_payers).toInt64) v_rest) then lp_X6_price_48 y2 y3 y4 y6 v_H_count v_rest v_payers v_H_papers v_H_sets v_upper n y7 y9 (y10 + (1 : Int32)) else (if ob_in y10 7 = true then (if ob_in y10 7 = true then (if ob_in y10 7 = true then lp_X6_price_48 y2 y3 y4 y6 v_H_count v_rest v_payers v_H_papers v_H_sets v_upper n (y7 + ((v_upper y10.toNatClampNeg) * ((v_H_papers y10.toNatClampNeg)).toInt64)) (y9 + (v_H_papers y10.toNatClampNeg)) (y10 + (1 : Int32)) else none) else none) else none)) else none))))
def lp_X6_price_32 (y2 : Int32) (y3 : Int32) (y4 : Int64) (v_H_count : Int32) (v_H_papers : Nat → Int32) (v_H_sets : Nat → Int32) (v_upper : Nat → Int64) (k : (Int64 × Int32) → Option (Int64 × Int32)) : Nat → Int32 → Int64 → Int32 → Option (Int64 × Int32)
  | 0, _, _, _ => none
  | n + 1, y6, v_rest, v_payers => (if (6 : Int32) < y6 then k (v_rest, v_payers) else (lp_X6_price_48 y2 y3 y4 y6 v_H_count v_rest v_payers v_H_papers v_H_sets v_upper FU (0 : Int64) (0 : Int32) (0 : Int32)).bind (fun q12 => (if (y3 - q12.2) = v_payers then some (v_rest, v_payers) else lp_X6_price_32 y2 y3 y4 v_H_count v_H_papers v_H_sets v_upper k n (y6 + (1 : Int32)) (y4 - q12.1) (y3 - q12.2))))
def f_X6_price (x2 : Int32) (v_H_count : Int32) (v_lower : Int64) (v_rest : Int64) (v_payers : Int32) (v_H_papers : Nat → Int32) (v_H_sets : Nat → Int32) (v_upper : Nat → Int64) : Option (Int64 × Int32) := (f_X3_telling x2 v_H_count v_H_papers v_H_sets).bind (fun q1 => (f_X3_total v_H_count v_H_papers).bind (fun q2 => lp_X6_price_32 x2 q1 ((q2).toInt64 * v_lower) v_H_count v_H_papers v_H_sets v_upper (fun q14 => some (q14.1, q14.2)) FU (0 : Int32) ((q2).toInt64 * v_lower) q1))
set_option maxHeartbeats 4000000 in
set_option maxRecDepth 100000 in
theorem wl_X6_price_48 {p : Program} {l : Launch} {e : Env} {s : State} {m : MethodId} {args : Array Value} {below : List Frame} {meth : Method} {c : Code} {A : Nat → Prop} {Q : State → Prop} {D : va_G} {cyI cyJ cyZ : ClassId} {a_H a_H_sets a_H_papers a_H_worths a_this a_upper : Nat} {y2 : Int32} {y3 : Int32} {y4 : Int64} {y6 : Int32} {v_H_count : Int32} {v_lower : Int64} {v_rest : Int64} {v_payers : Int32} {v_H_papers : Nat → Int32} {v_H_sets : Nat → Int32} {v_upper : Nat → Int64} (C : kC p s m args c cX6_price 11 RX6 wsX6_price D (kTy cyI cyJ cyZ) A) :
    ∀ (n : Nat) (y7 : Int64) (y9 : Int32) (y10 : Int32) (q : Int64 × Int32) (H : Heap) (locs : List Loc) (ls : Array Slot), lp_X6_price_48 y2 y3 y4 y6 v_H_count v_rest v_payers v_H_papers v_H_sets v_upper n y7 y9 y10 = some q → (∀ (H : Heap) (locs : List Loc) (ls : Array Slot), va_P D vwCl (wd_X6_price cyI cyJ cyZ a_H a_H_sets a_H_papers a_H_worths a_this a_upper v_H_count v_lower v_rest v_payers v_H_papers v_H_sets v_upper) H → va_D A (wd_X6_price cyI cyJ cyZ a_H a_H_sets a_H_papers a_H_worths a_this a_upper v_H_count v_lower v_rest v_payers v_H_papers v_H_sets v_upper) → va_S A s.heap H locs → lv_has ls 11 [(0, .ref a_this), (1, .ref a_H), (2, .int y2), (3, .int y3), (4, .long y4), (6, .int y6), (7, .long q.1), (9, .int q.2)] → W p l e rm_X6_price s m args below meth c H locs 0 0 Q (F0 m 127 ls [])) → va_P D vwCl (wd_X6_price cyI cyJ cyZ a_H a_H_sets a_H_papers a_H_worths a_this a_upper v_H_count v_lower v_rest v_payers v_H_papers v_H_sets v_upper) H → va_D A (wd_X6_price cyI cyJ cyZ a_H a_H_sets a_H_papers a_H_worths a_this a_upper v_H_count v_lower v_rest v_payers v_H_papers v_H_sets v_upper) → va_S A s.heap H locs → lv_has ls 11 [(0, .ref a_this), (1, .ref a_H), (2, .int y2), (3, .int y3), (4, .long y4), (6, .int y6), (7, .long y7), (9, .int y9), (10, .int y10)] → W p l e rm_X6_price s m args below meth c H locs 0 0 Q (F0 m 48 ls []) := by
  obtain ⟨hx, hb, hml, hown, hts, hK, hA⟩ := id C
  have iX3 : ∀ w ∈ u_ws RX3 TX3 4, w ∈ wsX6_price := by decide +kernel
  have iX6 : ∀ w ∈ u_ws RX6 TX6 4, w ∈ wsX6_price := by decide +kernel
  have fl33 := hts (.fieldLink RX6 33 "FairSeats$Purses" "rest" "J") (by decide +kernel)
  have fl36 := hts (.fieldLink RX6 36 "FairSeats$Purses" "payers" "I") (by decide +kernel)
  have fl40 := hts (.fieldLink RX6 40 "FairSeats$Heaps" "count" "I") (by decide +kernel)
  have fl47 := hts (.fieldLink RX6 47 "FairSeats$Purses" "upper" "[J") (by decide +kernel)
  have fl51 := hts (.fieldLink RX6 51 "FairSeats$Heaps" "papers" "[I") (by decide +kernel)
  have sfupper := hts (.sameField "FairSeats$Purses" "FairSeats$Fractions" "upper" "[J") (by decide +kernel)
  have cw43 := cwV (R := rm_X6_price) (rm := rm_X3_tells) 2 hts gX6_price_X3_tells rfl rfl rfl (by decide +kernel) ⟨Nat.le_of_ble_eq_true rfl, Nat.le_of_ble_eq_true rfl⟩
  intro n
  induction n with
  | zero =>
    intro y7 y9 y10 q H locs ls hf K hP hD hS hl
    rw [lp_X6_price_48] at hf
    cases hf
  | succ n ih =>
    intro y7 y9 y10 q H locs ls hf K hP hD hS hl
    rw [lp_X6_price_48] at hf
    refine lv_iload hx hb dX6_price_48 (lv_at hl 8 rfl) ?_
    refine lv_aload_n hx hb dX6_price_50 rfl (lv_at hl 1 rfl) ?_
    refine va_get (D := D) (ci := 2) (v := .int v_H_count) (C := RX3) (T := TX3) (N := 4) hx hb hts iX3 hown hK hP 0 rfl rfl 3 (by decide) fl40 (fun _ h9 => h9) rfl dX6_price_51 ?_
    refine lv_icmp_ge (tgt := 127) hx hb dX6_price_54 (by decide) (fun c4 => ?_) (fun c4 => ?_)
    · have hf := ob_pos c4 hf
      obtain rfl := Option.some.inj hf
      exact K _ _ _ hP hD hS (lv_sub hl [0, 1, 2, 3, 4, 5, 6, 7] rfl)
    · have hf := ob_neg c4 hf
      refine lv_aload_n hx hb dX6_price_57 rfl (lv_at hl 1 rfl) ?_
      refine lv_iload hx hb dX6_price_58 (lv_at hl 8 rfl) ?_
      refine lv_iload_n hx hb dX6_price_60 rfl (lv_at hl 2 rfl) ?_
      obtain ⟨q5, hq5, hf⟩ := ob_bind hf
      refine k_Vz (wo := (wd_X6_price cyI cyJ cyZ a_H a_H_sets a_H_papers a_H_worths a_this a_upper v_H_count v_lower v_rest v_payers v_H_papers v_H_sets v_upper)) (As := [.int y10, .int y2]) (rest := []) C (c_X3_tells l D cyI cyJ cyZ a_H a_H_sets a_H_papers a_H_worths v_H_count v_H_sets y10 y2 q5 hq5) cw43 hP hD hS [0, 3] [1, 2, 4] [3, 0, 1, 4, 2] rfl rfl rfl (by decide) 0 (ci := 2) rfl rfl rfl rfl rfl hl.1 (Nat.le_of_ble_eq_true rfl) dX6_price_61 ⟨Nat.zero_le _, Nat.zero_le _⟩ (fun H locs zq5 hP hD hS => ?_)
      refine lv_if_eq (tgt := 121) hx hb dX6_price_64 (by decide) (fun c6 => ?_) (fun c6 => ?_)
      · have hf := ob_pos c6 hf
        refine lv_iinc (v := (y10 + (1 : Int32))) (lv' := [(10, .int (y10 + (1 : Int32))), (0, .ref a_this), (1, .ref a_H), (2, .int y2), (3, .int y3), (4, .long y4), (6, .int y6), (7, .long y7), (9, .int y9)]) hx hb dX6_price_121 hl (k := 8) rfl rfl (by decide) rfl (fun ls hl => ?_)
        refine lv_goto (tgt := 48) hx hb dX6_price_124 (by decide) ?_
        exact ih y7 y9 (y10 + (1 : Int32)) _ _ _ _ hf K hP hD hS (lv_sub hl [1, 2, 3, 4, 5, 6, 7, 8, 0] rfl)
      · have hf := ob_neg c6 hf
        refine lv_aload_n hx hb dX6_price_67 rfl (lv_at hl 0 rfl) ?_
        refine va_get (D := D) (ci := 5) (v := .ref a_upper) (C := RX6) (T := TX6) (N := 4) hx hb hts iX6 hown hK hP 1 rfl rfl 0 (by decide) fl47 (fun x9 h9 => u_same sfupper x9 h9) rfl dX6_price_68 ?_
        refine lv_iload hx hb dX6_price_71 (lv_at hl 8 rfl) ?_
        obtain ⟨h7, hf⟩ := og_in hf
        refine va_lald hx hb hK hP 4 1 rfl rfl h7 dX6_price_73 ?_
        refine lv_aload_n hx hb dX6_price_74 rfl (lv_at hl 0 rfl) ?_
        refine va_get (D := D) (ci := 5) (v := .int v_payers) (C := RX6) (T := TX6) (N := 4) hx hb hts iX6 hown hK hP 1 rfl rfl 3 (by decide) fl36 (fun _ h9 => h9) rfl dX6_price_75 ?_
        refine lv_i2l (v := (v_payers).toInt64) hx hb dX6_price_78 rfl ?_
        refine lv_lmul hx hb dX6_price_79 ?_
        refine lv_aload_n hx hb dX6_price_80 rfl (lv_at hl 0 rfl) ?_
        refine va_get (D := D) (ci := 5) (v := .long v_rest) (C := RX6) (T := TX6) (N := 4) hx hb hts iX6 hown hK hP 1 rfl rfl 2 (by decide) fl33 (fun _ h9 => h9) rfl dX6_price_81 ?_
        refine W.lcmp hx hb dX6_price_84 ?_
        refine lv_if_ge (tgt := 121) hx hb dX6_price_85 (by decide) (fun c8 => ?_) (fun c8 => ?_)
        · have hf := ob_pos c8 hf
          refine lv_iinc (v := (y10 + (1 : Int32))) (lv' := [(10, .int (y10 + (1 : Int32))), (0, .ref a_this), (1, .ref a_H), (2, .int y2), (3, .int y3), (4, .long y4), (6, .int y6), (7, .long y7), (9, .int y9)]) hx hb dX6_price_121 hl (k := 8) rfl rfl (by decide) rfl (fun ls hl => ?_)
          refine lv_goto (tgt := 48) hx hb dX6_price_124 (by decide) ?_
          exact ih y7 y9 (y10 + (1 : Int32)) _ _ _ _ hf K hP hD hS (lv_sub hl [1, 2, 3, 4, 5, 6, 7, 8, 0] rfl)
        · have hf := ob_neg c8 hf
          refine lv_lload hx hb dX6_price_88 (lv_at hl 6 rfl) ?_
          refine lv_aload_n hx hb dX6_price_90 rfl (lv_at hl 0 rfl) ?_
          refine va_get (D := D) (ci := 5) (v := .ref a_upper) (C := RX6) (T := TX6) (N := 4) hx hb hts iX6 hown hK hP 1 rfl rfl 0 (by decide) fl47 (fun x9 h9 => u_same sfupper x9 h9) rfl dX6_price_91 ?_
          refine lv_iload hx hb dX6_price_94 (lv_at hl 8 rfl) ?_
          obtain ⟨h9, hf⟩ := og_in hf
          refine va_lald hx hb hK hP 4 1 rfl rfl h9 dX6_price_96 ?_
          refine lv_aload_n hx hb dX6_price_97 rfl (lv_at hl 1 rfl) ?_
          refine va_get (D := D) (ci := 2) (v := .ref a_H_papers) (C := RX3) (T := TX3) (N := 4) hx hb hts iX3 hown hK hP 0 rfl rfl 1 (by decide) fl51 (fun _ h9 => h9) rfl dX6_price_98 ?_
          refine lv_iload hx hb dX6_price_101 (lv_at hl 8 rfl) ?_
          obtain ⟨h10, hf⟩ := og_in hf
          refine va_iald hx hb hK hP 2 0 rfl rfl h10 dX6_price_103 ?_
          refine lv_i2l (v := ((v_H_papers y10.toNatClampNeg)).toInt64) hx hb dX6_price_104 rfl ?_
          refine lv_lmul hx hb dX6_price_105 ?_
          refine lv_ladd hx hb dX6_price_106 ?_
          refine lv_lstore (lv' := [(7, .long (y7 + ((v_upper y10.toNatClampNeg) * ((v_H_papers y10.toNatClampNeg)).toInt64))), (0, .ref a_this), (1, .ref a_H), (2, .int y2), (3, .int y3), (4, .long y4), (6, .int y6), (9, .int y9), (10, .int y10)]) hx hb dX6_price_107 hl (by decide) rfl (fun ls hl => ?_)
          refine lv_iload hx hb dX6_price_109 (lv_at hl 7 rfl) ?_
          refine lv_aload_n hx hb dX6_price_111 rfl (lv_at hl 2 rfl) ?_
          refine va_get (D := D) (ci := 2) (v := .ref a_H_papers) (C := RX3) (T := TX3) (N := 4) hx hb hts iX3 hown hK hP 0 rfl rfl 1 (by decide) fl51 (fun _ h9 => h9) rfl dX6_price_112 ?_
          refine lv_iload hx hb dX6_price_115 (lv_at hl 8 rfl) ?_
          obtain ⟨h11, hf⟩ := og_in hf
          refine va_iald hx hb hK hP 2 0 rfl rfl h11 dX6_price_117 ?_
          refine lv_iadd hx hb dX6_price_118 ?_
          refine lv_istore (lv' := [(9, .int (y9 + (v_H_papers y10.toNatClampNeg))), (7, .long (y7 + ((v_upper y10.toNatClampNeg) * ((v_H_papers y10.toNatClampNeg)).toInt64))), (0, .ref a_this), (1, .ref a_H), (2, .int y2), (3, .int y3), (4, .long y4), (6, .int y6), (10, .int y10)]) hx hb dX6_price_119 hl (by decide) rfl (fun ls hl => ?_)
          refine lv_iinc (v := (y10 + (1 : Int32))) (lv' := [(10, .int (y10 + (1 : Int32))), (9, .int (y9 + (v_H_papers y10.toNatClampNeg))), (7, .long (y7 + ((v_upper y10.toNatClampNeg) * ((v_H_papers y10.toNatClampNeg)).toInt64))), (0, .ref a_this), (1, .ref a_H), (2, .int y2), (3, .int y3), (4, .long y4), (6, .int y6)]) hx hb dX6_price_121 hl (k := 8) rfl rfl (by decide) rfl (fun ls hl => ?_)
          refine lv_goto (tgt := 48) hx hb dX6_price_124 (by decide) ?_
          exact ih (y7 + ((v_upper y10.toNatClampNeg) * ((v_H_papers y10.toNatClampNeg)).toInt64)) (y9 + (v_H_papers y10.toNatClampNeg)) (y10 + (1 : Int32)) _ _ _ _ hf K hP hD hS (lv_sub hl [3, 4, 5, 6, 7, 8, 2, 1, 0] rfl)
set_option maxHeartbeats 4000000 in
set_option maxRecDepth 100000 in
theorem wl_X6_price_32 {p : Program} {l : Launch} {e : Env} {s : State} {m : MethodId} {args : Array Value} {below : List Frame} {meth : Method} {c : Code} {A : Nat → Prop} {Q : State → Prop} {D : va_G} {cyI cyJ cyZ : ClassId} {a_H a_H_sets a_H_papers a_H_worths a_this a_upper : Nat} {y2 : Int32} {y3 : Int32} {y4 : Int64} {v_H_count : Int32} {v_lower : Int64} {v_H_papers : Nat → Int32} {v_H_sets : Nat → Int32} {v_upper : Nat → Int64} {k : (Int64 × Int32) → Option (Int64 × Int32)} {q : Int64 × Int32} (C : kC p s m args c cX6_price 11 RX6 wsX6_price D (kTy cyI cyJ cyZ) A) (hret : ∀ (pc : Nat) (H : Heap) (locs : List Loc) (ls : Array Slot), decode cX6_price pc = .ok (.return_, 1) → va_P D vwCl (wd_X6_price cyI cyJ cyZ a_H a_H_sets a_H_papers a_H_worths a_this a_upper v_H_count v_lower q.1 q.2 v_H_papers v_H_sets v_upper) H → va_D A (wd_X6_price cyI cyJ cyZ a_H a_H_sets a_H_papers a_H_worths a_this a_upper v_H_count v_lower q.1 q.2 v_H_papers v_H_sets v_upper) → va_S A s.heap H locs → W p l e rm_X6_price s m args below meth c H locs 0 0 Q (F0 m pc ls [])) (K : (∀ (x : Int64 × Int32) (H : Heap) (locs : List Loc) (ls : Array Slot), k x = some q → va_P D vwCl (wd_X6_price cyI cyJ cyZ a_H a_H_sets a_H_papers a_H_worths a_this a_upper v_H_count v_lower x.1 x.2 v_H_papers v_H_sets v_upper) H → va_D A (wd_X6_price cyI cyJ cyZ a_H a_H_sets a_H_papers a_H_worths a_this a_upper v_H_count v_lower x.1 x.2 v_H_papers v_H_sets v_upper) → va_S A s.heap H locs → lv_has ls 11 [] → W p l e rm_X6_price s m args below meth c H locs 0 0 Q (F0 m 162 ls []))) :
    ∀ (n : Nat) (y6 : Int32) (v_rest : Int64) (v_payers : Int32) (H : Heap) (locs : List Loc) (ls : Array Slot), lp_X6_price_32 y2 y3 y4 v_H_count v_H_papers v_H_sets v_upper k n y6 v_rest v_payers = some q → va_P D vwCl (wd_X6_price cyI cyJ cyZ a_H a_H_sets a_H_papers a_H_worths a_this a_upper v_H_count v_lower v_rest v_payers v_H_papers v_H_sets v_upper) H → va_D A (wd_X6_price cyI cyJ cyZ a_H a_H_sets a_H_papers a_H_worths a_this a_upper v_H_count v_lower v_rest v_payers v_H_papers v_H_sets v_upper) → va_S A s.heap H locs → lv_has ls 11 [(0, .ref a_this), (1, .ref a_H), (2, .int y2), (3, .int y3), (4, .long y4), (6, .int y6)] → W p l e rm_X6_price s m args below meth c H locs 0 0 Q (F0 m 32 ls []) := by
  obtain ⟨hx, hb, hml, hown, hts, hK, hA⟩ := id C
  have iX6 : ∀ w ∈ u_ws RX6 TX6 4, w ∈ wsX6_price := by decide +kernel
  have fl33 := hts (.fieldLink RX6 33 "FairSeats$Purses" "rest" "J") (by decide +kernel)
  have fl36 := hts (.fieldLink RX6 36 "FairSeats$Purses" "payers" "I") (by decide +kernel)
  intro n
  induction n with
  | zero =>
    intro y6 v_rest v_payers H locs ls hf hP hD hS hl
    rw [lp_X6_price_32] at hf
    cases hf
  | succ n ih =>
    intro y6 v_rest v_payers H locs ls hf hP hD hS hl
    rw [lp_X6_price_32] at hf
    refine lv_iload hx hb dX6_price_32 (lv_at hl 5 rfl) ?_
    refine lv_bipush (v := (6 : Int32)) hx hb dX6_price_34 (by decide) ?_
    refine lv_icmp_gt (tgt := 162) hx hb dX6_price_36 (by decide) (fun c3 => ?_) (fun c3 => ?_)
    · have hf := ob_pos c3 hf
      exact K (v_rest, v_payers) _ _ _ hf hP hD hS (lv_sub hl [] rfl)
    · have hf := ob_neg c3 hf
      refine lv_lconst (v := 0) hx hb dX6_price_39 (by decide) ?_
      refine lv_lstore (lv' := [(7, .long (0 : Int64)), (0, .ref a_this), (1, .ref a_H), (2, .int y2), (3, .int y3), (4, .long y4), (6, .int y6)]) hx hb dX6_price_40 hl (by decide) rfl (fun ls hl => ?_)
      refine lv_iconst (v := (0 : Int32)) hx hb dX6_price_42 (by decide) ?_
      refine lv_istore (lv' := [(9, .int (0 : Int32)), (7, .long (0 : Int64)), (0, .ref a_this), (1, .ref a_H), (2, .int y2), (3, .int y3), (4, .long y4), (6, .int y6)]) hx hb dX6_price_43 hl (by decide) rfl (fun ls hl => ?_)
      refine lv_iconst (v := (0 : Int32)) hx hb dX6_price_45 (by decide) ?_
      refine lv_istore (lv' := [(10, .int (0 : Int32)), (9, .int (0 : Int32)), (7, .long (0 : Int64)), (0, .ref a_this), (1, .ref a_H), (2, .int y2), (3, .int y3), (4, .long y4), (6, .int y6)]) hx hb dX6_price_46 hl (by decide) rfl (fun ls hl => ?_)
      obtain ⟨q12, hq12, hf⟩ := ob_bind hf
      refine wl_X6_price_48 C FU (0 : Int64) (0 : Int32) (0 : Int32) _ _ _ _ hq12 (fun H locs ls hP hD hS hl => ?_) hP hD hS (lv_sub hl [3, 4, 5, 6, 7, 8, 2, 1, 0] rfl)
      refine lv_iload_n hx hb dX6_price_127 rfl (lv_at hl 3 rfl) ?_
      refine lv_iload hx hb dX6_price_128 (lv_at hl 7 rfl) ?_
      refine lv_isub hx hb dX6_price_130 ?_
      refine lv_aload_n hx hb dX6_price_131 rfl (lv_at hl 0 rfl) ?_
      refine va_get (D := D) (ci := 5) (v := .int v_payers) (C := RX6) (T := TX6) (N := 4) hx hb hts iX6 hown hK hP 1 rfl rfl 3 (by decide) fl36 (fun _ h9 => h9) rfl dX6_price_132 ?_
      refine lv_icmp_ne (tgt := 139) hx hb dX6_price_135 (by decide) (fun c13 => ?_) (fun c13 => ?_)
      · have hf := ob_neg c13 hf
        refine lv_aload_n hx hb dX6_price_139 rfl (lv_at hl 0 rfl) ?_
        refine lv_lload hx hb dX6_price_140 (lv_at hl 4 rfl) ?_
        refine lv_lload hx hb dX6_price_142 (lv_at hl 6 rfl) ?_
        refine lv_lsub hx hb dX6_price_144 ?_
        refine va_put (D := D) (ci := 5) (v := .long (y4 - q12.1)) (ty := .long) (C := RX6) (T := TX6) (N := 4) hx hb hts iX6 tyX6 tyX6_ok nmX6 hown hK hP hD hS 1 rfl rfl 2 (by decide) fl33 (fun _ h9 => h9) rfl (by decide +kernel) rfl rfl (Nat.le_of_ble_eq_true rfl) dX6_price_145 (fun H locs hP hD hS => ?_)
        have hP : va_P D vwCl (wd_X6_price cyI cyJ cyZ a_H a_H_sets a_H_papers a_H_worths a_this a_upper v_H_count v_lower (y4 - q12.1) v_payers v_H_papers v_H_sets v_upper) H := hP
        have hD : va_D A (wd_X6_price cyI cyJ cyZ a_H a_H_sets a_H_papers a_H_worths a_this a_upper v_H_count v_lower (y4 - q12.1) v_payers v_H_papers v_H_sets v_upper) := hD
        refine lv_aload_n hx hb dX6_price_148 rfl (lv_at hl 0 rfl) ?_
        refine lv_iload_n hx hb dX6_price_149 rfl (lv_at hl 3 rfl) ?_
        refine lv_iload hx hb dX6_price_150 (lv_at hl 7 rfl) ?_
        refine lv_isub hx hb dX6_price_152 ?_
        refine va_put (D := D) (ci := 5) (v := .int (y3 - q12.2)) (ty := .int) (C := RX6) (T := TX6) (N := 4) hx hb hts iX6 tyX6 tyX6_ok nmX6 hown hK hP hD hS 1 rfl rfl 3 (by decide) fl36 (fun _ h9 => h9) rfl (by decide +kernel) rfl rfl (Nat.le_of_ble_eq_true rfl) dX6_price_153 (fun H locs hP hD hS => ?_)
        have hP : va_P D vwCl (wd_X6_price cyI cyJ cyZ a_H a_H_sets a_H_papers a_H_worths a_this a_upper v_H_count v_lower (y4 - q12.1) (y3 - q12.2) v_H_papers v_H_sets v_upper) H := hP
        have hD : va_D A (wd_X6_price cyI cyJ cyZ a_H a_H_sets a_H_papers a_H_worths a_this a_upper v_H_count v_lower (y4 - q12.1) (y3 - q12.2) v_H_papers v_H_sets v_upper) := hD
        refine lv_iinc (v := (y6 + (1 : Int32))) (lv' := [(6, .int (y6 + (1 : Int32))), (0, .ref a_this), (1, .ref a_H), (2, .int y2), (3, .int y3), (4, .long y4), (7, .long q12.1), (9, .int q12.2)]) hx hb dX6_price_156 hl (k := 5) rfl rfl (by decide) rfl (fun ls hl => ?_)
        refine lv_goto (tgt := 32) hx hb dX6_price_159 (by decide) ?_
        exact ih (y6 + (1 : Int32)) (y4 - q12.1) (y3 - q12.2) _ _ _ hf hP hD hS (lv_sub hl [1, 2, 3, 4, 5, 0] rfl)
      · have hf := ob_pos c13 hf
        obtain rfl := Option.some.inj hf
        exact hret _ _ _ _ dX6_price_138 hP hD hS
set_option maxHeartbeats 4000000 in
set_option maxRecDepth 100000 in
theorem c_X6_price (l : Launch) (D : va_G) (cyI cyJ cyZ : ClassId) (a_H a_H_sets a_H_papers a_H_worths a_this a_upper : Nat) (v_H_count : Int32) (v_lower : Int64) (v_rest : Int64) (v_payers : Int32) (v_H_papers : Nat → Int32) (v_H_sets : Nat → Int32) (v_upper : Nat → Int64) (x2 : Int32) (q : Int64 × Int32) (hf : f_X6_price x2 v_H_count v_lower v_rest v_payers v_H_papers v_H_sets v_upper = some q) : kMv l yX6_price wsX6_price rm_X6_price D (kTy cyI cyJ cyZ) [.ref a_this, .ref a_H, .int x2] (wd_X6_price cyI cyJ cyZ a_H a_H_sets a_H_papers a_H_worths a_this a_upper v_H_count v_lower v_rest v_payers v_H_papers v_H_sets v_upper) (wd_X6_price cyI cyJ cyZ a_H a_H_sets a_H_papers a_H_worths a_this a_upper v_H_count v_lower q.1 q.2 v_H_papers v_H_sets v_upper) := by
  refine kMv_of (cc := cX6_price) (nL := 11) (own := RX6) (by decide) rfl rfl (Nat.le_of_ble_eq_true rfl) ?_
  intro p e s m below meth c A Q ls C hret hP hD hS hl
  have hl : lv_has ls 11 [(0, .ref a_this), (1, .ref a_H), (2, .int x2)] := hl
  unfold f_X6_price at hf
  obtain ⟨hx, hb, hml, hown, hts, hK, hA⟩ := id C
  have iX6 : ∀ w ∈ u_ws RX6 TX6 4, w ∈ wsX6_price := by decide +kernel
  have fl15 := hts (.fieldLink RX6 15 "FairSeats$Purses" "lower" "J") (by decide +kernel)
  have fl33 := hts (.fieldLink RX6 33 "FairSeats$Purses" "rest" "J") (by decide +kernel)
  have fl36 := hts (.fieldLink RX6 36 "FairSeats$Purses" "payers" "I") (by decide +kernel)
  have sflower := hts (.sameField "FairSeats$Purses" "FairSeats$Fractions" "lower" "J") (by decide +kernel)
  have cw9 := cwV (R := rm_X6_price) (rm := rm_X3_total) 0 hts gX6_price_X3_total rfl rfl rfl (by decide +kernel) ⟨Nat.le_of_ble_eq_true rfl, Nat.le_of_ble_eq_true rfl⟩
  have cw21 := cwV (R := rm_X6_price) (rm := rm_X3_telling) 1 hts gX6_price_X3_telling rfl rfl rfl (by decide +kernel) ⟨Nat.le_of_ble_eq_true rfl, Nat.le_of_ble_eq_true rfl⟩
  refine lv_aload_n hx hb dX6_price_0 rfl (lv_at hl 1 rfl) ?_
  refine lv_iload_n hx hb dX6_price_1 rfl (lv_at hl 2 rfl) ?_
  obtain ⟨q1, hq1, hf⟩ := ob_bind hf
  refine k_Vi (wo := (wd_X6_price cyI cyJ cyZ a_H a_H_sets a_H_papers a_H_worths a_this a_upper v_H_count v_lower v_rest v_payers v_H_papers v_H_sets v_upper)) (As := [.int x2]) (rest := []) C (c_X3_telling l D cyI cyJ cyZ a_H a_H_sets a_H_papers a_H_worths v_H_count v_H_papers v_H_sets x2 q1 hq1) cw21 hP hD hS [0, 2, 3] [1, 4] [2, 0, 3, 4, 1] rfl rfl rfl (by decide) 0 (ci := 2) rfl rfl rfl rfl rfl hl.1 (Nat.le_of_ble_eq_true rfl) dX6_price_2 ⟨Nat.zero_le _, Nat.zero_le _⟩ (fun H locs hP hD hS => ?_)
  refine lv_istore_n (lv' := [(3, .int q1), (0, .ref a_this), (1, .ref a_H), (2, .int x2)]) hx hb dX6_price_5 rfl hl (by decide) rfl (fun ls hl => ?_)
  refine lv_aload_n hx hb dX6_price_6 rfl (lv_at hl 2 rfl) ?_
  obtain ⟨q2, hq2, hf⟩ := ob_bind hf
  refine k_Vi (wo := (wd_X6_price cyI cyJ cyZ a_H a_H_sets a_H_papers a_H_worths a_this a_upper v_H_count v_lower v_rest v_payers v_H_papers v_H_sets v_upper)) (As := []) (rest := []) C (c_X3_total l D cyI cyJ cyZ a_H a_H_sets a_H_papers a_H_worths v_H_count v_H_papers  q2 hq2) cw9 hP hD hS [0, 2] [1, 3, 4] [3, 0, 4, 1, 2] rfl rfl rfl (by decide) 0 (ci := 2) rfl rfl rfl rfl rfl hl.1 (Nat.le_of_ble_eq_true rfl) dX6_price_7 ⟨Nat.zero_le _, Nat.zero_le _⟩ (fun H locs hP hD hS => ?_)
  refine lv_i2l (v := (q2).toInt64) hx hb dX6_price_10 rfl ?_
  refine lv_aload_n hx hb dX6_price_11 rfl (lv_at hl 1 rfl) ?_
  refine va_get (D := D) (ci := 5) (v := .long v_lower) (C := RX6) (T := TX6) (N := 4) hx hb hts iX6 hown hK hP 1 rfl rfl 1 (by decide) fl15 (fun x9 h9 => u_same sflower x9 h9) rfl dX6_price_12 ?_
  refine lv_lmul hx hb dX6_price_15 ?_
  refine lv_lstore (lv' := [(4, .long ((q2).toInt64 * v_lower)), (3, .int q1), (0, .ref a_this), (1, .ref a_H), (2, .int x2)]) hx hb dX6_price_16 hl (by decide) rfl (fun ls hl => ?_)
  refine lv_aload_n hx hb dX6_price_18 rfl (lv_at hl 2 rfl) ?_
  refine lv_lload hx hb dX6_price_19 (lv_at hl 0 rfl) ?_
  refine va_put (D := D) (ci := 5) (v := .long ((q2).toInt64 * v_lower)) (ty := .long) (C := RX6) (T := TX6) (N := 4) hx hb hts iX6 tyX6 tyX6_ok nmX6 hown hK hP hD hS 1 rfl rfl 2 (by decide) fl33 (fun _ h9 => h9) rfl (by decide +kernel) rfl rfl (Nat.le_of_ble_eq_true rfl) dX6_price_21 (fun H locs hP hD hS => ?_)
  have hP : va_P D vwCl (wd_X6_price cyI cyJ cyZ a_H a_H_sets a_H_papers a_H_worths a_this a_upper v_H_count v_lower ((q2).toInt64 * v_lower) v_payers v_H_papers v_H_sets v_upper) H := hP
  have hD : va_D A (wd_X6_price cyI cyJ cyZ a_H a_H_sets a_H_papers a_H_worths a_this a_upper v_H_count v_lower ((q2).toInt64 * v_lower) v_payers v_H_papers v_H_sets v_upper) := hD
  refine lv_aload_n hx hb dX6_price_24 rfl (lv_at hl 2 rfl) ?_
  refine lv_iload_n hx hb dX6_price_25 rfl (lv_at hl 1 rfl) ?_
  refine va_put (D := D) (ci := 5) (v := .int q1) (ty := .int) (C := RX6) (T := TX6) (N := 4) hx hb hts iX6 tyX6 tyX6_ok nmX6 hown hK hP hD hS 1 rfl rfl 3 (by decide) fl36 (fun _ h9 => h9) rfl (by decide +kernel) rfl rfl (Nat.le_of_ble_eq_true rfl) dX6_price_26 (fun H locs hP hD hS => ?_)
  have hP : va_P D vwCl (wd_X6_price cyI cyJ cyZ a_H a_H_sets a_H_papers a_H_worths a_this a_upper v_H_count v_lower ((q2).toInt64 * v_lower) q1 v_H_papers v_H_sets v_upper) H := hP
  have hD : va_D A (wd_X6_price cyI cyJ cyZ a_H a_H_sets a_H_papers a_H_worths a_this a_upper v_H_count v_lower ((q2).toInt64 * v_lower) q1 v_H_papers v_H_sets v_upper) := hD
  refine lv_iconst (v := (0 : Int32)) hx hb dX6_price_29 (by decide) ?_
  refine lv_istore (lv' := [(6, .int (0 : Int32)), (4, .long ((q2).toInt64 * v_lower)), (3, .int q1), (0, .ref a_this), (1, .ref a_H), (2, .int x2)]) hx hb dX6_price_30 hl (by decide) rfl (fun ls hl => ?_)
  refine wl_X6_price_32 C hret (fun q14 H locs ls hf hP hD hS hl => ?_) FU (0 : Int32) ((q2).toInt64 * v_lower) q1 _ _ _ hf hP hD hS (lv_sub hl [3, 4, 5, 2, 1, 0] rfl)
  obtain rfl := Option.some.inj hf
  exact hret _ _ _ _ dX6_price_162 hP hD hS
abbrev rm_X6_cheapest : Room := { frames := 3, cells := 0, slots := 0, locals := 75 }
abbrev wd_X6_cheapest (cyI cyJ cyZ : ClassId) (a_H a_H_sets a_H_papers a_H_worths a_this a_upper : Nat) (v_H_count : Int32) (v_lower : Int64) (v_rest : Int64) (v_payers : Int32) (v_H_papers : Nat → Int32) (v_H_sets : Nat → Int32) (v_upper : Nat → Int64) : va_W := [(a_H, .inr (2, [.ref a_H_sets, .ref a_H_papers, .ref a_H_worths, .int v_H_count])), (a_this, .inr (5, [.ref a_upper, .long v_lower, .long v_rest, .int v_payers])), (a_H_papers, .inl (cyI, 7, .inl v_H_papers)), (a_H_sets, .inl (cyI, 7, .inl v_H_sets)), (a_upper, .inl (cyJ, 7, .inr (.inl v_upper)))]
def lp_X6_cheapest_24 (y2 : Int32) (y7 : Int64) (v_H_count : Int32) (v_lower : Int64) (v_H_papers : Nat → Int32) (v_H_sets : Nat → Int32) (v_upper : Nat → Int64) : Nat → Int32 → Int64 → Int32 → Int32 → Int64 → Int32 → Option (Int32 × Int64 × Int32)
  | 0, _, _, _, _, _, _ => none
  | n + 1, y3, y4, y6, y9, v_rest, v_payers => (if (8 : Int32) ≤ y9 then some (y3, v_rest, v_payers) else (if ((y2 >>> (y9 &&& 31)) &&& (1 : Int32)) = (1 : Int32) then lp_X6_cheapest_24 y2 y7 v_H_count v_lower v_H_papers v_H_sets v_upper n y3 y4 y6 (y9 + (1 : Int32)) v_rest v_payers else (f_X3_telling y9 v_H_count v_H_papers v_H_sets).bind (fun q4 => (if q4 = 0 then lp_X6_cheapest_24 y2 y7 v_H_count v_lower v_H_papers v_H_sets v_upper n y3 y4 y6 (y9 + (1 : Int32)) v_rest v_payers else (f_X1_sumOf_X6 y9 v_H_count v_H_papers v_H_sets v_upper).bind (fun q6 => (if 0 ≤ (lg_cmp q6 y7) then (f_X6_price y9 v_H_count v_lower v_rest v_payers v_H_papers v_H_sets v_upper).bind (fun q8 => (if y3 = (-6 : Int32) then lp_X6_cheapest_24 y2 y7 v_H_count v_lower v_H_papers v_H_sets v_upper n y9 q8.1 q8.2 (y9 + (1 : Int32)) q8.1 q8.2 else (if 0 ≤ (lg_cmp (q8.1 * (y6).toInt64) (y4 * (q8.2).toInt64)) then lp_X6_cheapest_24 y2 y7 v_H_count v_lower v_H_papers v_H_sets v_upper n y3 y4 y6 (y9 + (1 : Int32)) q8.1 q8.2 else lp_X6_cheapest_24 y2 y7 v_H_count v_lower v_H_papers v_H_sets v_upper n y9 q8.1 q8.2 (y9 + (1 : Int32)) q8.1 q8.2))) else lp_X6_cheapest_24 y2 y7 v_H_count v_lower v_H_papers v_H_sets v_upper n y3 y4 y6 (y9 + (1 : Int32)) v_rest v_payers))))))
def f_X6_cheapest (x2 : Int32) (v_H_count : Int32) (v_lower : Int64) (v_rest : Int64) (v_payers : Int32) (v_H_papers : Nat → Int32) (v_H_sets : Nat → Int32) (v_upper : Nat → Int64) : Option (Int32 × Int64 × Int32) := (f_X3_total v_H_count v_H_papers).bind (fun q1 => (lp_X6_cheapest_24 x2 ((q1).toInt64 * v_lower) v_H_count v_lower v_H_papers v_H_sets v_upper FU (-6 : Int32) (0 : Int64) (0 : Int32) (0 : Int32) v_rest v_payers).bind (fun q11 => some (q11.1, q11.2.1, q11.2.2)))
set_option maxHeartbeats 4000000 in
set_option maxRecDepth 100000 in
theorem wl_X6_cheapest_24 {p : Program} {l : Launch} {e : Env} {s : State} {m : MethodId} {args : Array Value} {below : List Frame} {meth : Method} {c : Code} {A : Nat → Prop} {Q : State → Prop} {D : va_G} {cyI cyJ cyZ : ClassId} {a_H a_H_sets a_H_papers a_H_worths a_this a_upper : Nat} {y2 : Int32} {y7 : Int64} {v_H_count : Int32} {v_lower : Int64} {v_H_papers : Nat → Int32} {v_H_sets : Nat → Int32} {v_upper : Nat → Int64} (C : kC p s m args c cX6_cheapest 10 RX6 wsX6_cheapest D (kTy cyI cyJ cyZ) A) :
    ∀ (n : Nat) (y3 : Int32) (y4 : Int64) (y6 : Int32) (y9 : Int32) (v_rest : Int64) (v_payers : Int32) (q : Int32 × Int64 × Int32) (H : Heap) (locs : List Loc) (ls : Array Slot), lp_X6_cheapest_24 y2 y7 v_H_count v_lower v_H_papers v_H_sets v_upper n y3 y4 y6 y9 v_rest v_payers = some q → (∀ (H : Heap) (locs : List Loc) (ls : Array Slot), va_P D vwCl (wd_X6_cheapest cyI cyJ cyZ a_H a_H_sets a_H_papers a_H_worths a_this a_upper v_H_count v_lower q.2.1 q.2.2 v_H_papers v_H_sets v_upper) H → va_D A (wd_X6_cheapest cyI cyJ cyZ a_H a_H_sets a_H_papers a_H_worths a_this a_upper v_H_count v_lower q.2.1 q.2.2 v_H_papers v_H_sets v_upper) → va_S A s.heap H locs → lv_has ls 10 [(3, .int q.1)] → W p l e rm_X6_cheapest s m args below meth c H locs 0 0 Q (F0 m 120 ls [])) → va_P D vwCl (wd_X6_cheapest cyI cyJ cyZ a_H a_H_sets a_H_papers a_H_worths a_this a_upper v_H_count v_lower v_rest v_payers v_H_papers v_H_sets v_upper) H → va_D A (wd_X6_cheapest cyI cyJ cyZ a_H a_H_sets a_H_papers a_H_worths a_this a_upper v_H_count v_lower v_rest v_payers v_H_papers v_H_sets v_upper) → va_S A s.heap H locs → lv_has ls 10 [(0, .ref a_this), (1, .ref a_H), (2, .int y2), (3, .int y3), (4, .long y4), (6, .int y6), (7, .long y7), (9, .int y9)] → W p l e rm_X6_cheapest s m args below meth c H locs 0 0 Q (F0 m 24 ls []) := by
  obtain ⟨hx, hb, hml, hown, hts, hK, hA⟩ := id C
  have iX6 : ∀ w ∈ u_ws RX6 TX6 4, w ∈ wsX6_cheapest := by decide +kernel
  have fl33 := hts (.fieldLink RX6 33 "FairSeats$Purses" "rest" "J") (by decide +kernel)
  have fl36 := hts (.fieldLink RX6 36 "FairSeats$Purses" "payers" "I") (by decide +kernel)
  have cw21 := cwV (R := rm_X6_cheapest) (rm := rm_X3_telling) 1 hts gX6_cheapest_X3_telling rfl rfl rfl (by decide +kernel) ⟨Nat.le_of_ble_eq_true rfl, Nat.le_of_ble_eq_true rfl⟩
  have cw25 := va_cwU (R := rm_X6_cheapest) (rm := rm_X1_sumOf_X6) 2 hts gX6_cheapest_X1_sumOf_u25X6 rfl rfl rfl rfl (by decide +kernel) ⟨Nat.le_of_ble_eq_true rfl, Nat.le_of_ble_eq_true rfl⟩
  have cw29 := cwV (R := rm_X6_cheapest) (rm := rm_X6_price) 2 hts gX6_cheapest_X6_price rfl rfl rfl (by decide +kernel) ⟨Nat.le_of_ble_eq_true rfl, Nat.le_of_ble_eq_true rfl⟩
  intro n
  induction n with
  | zero =>
    intro y3 y4 y6 y9 v_rest v_payers q H locs ls hf K hP hD hS hl
    rw [lp_X6_cheapest_24] at hf
    cases hf
  | succ n ih =>
    intro y3 y4 y6 y9 v_rest v_payers q H locs ls hf K hP hD hS hl
    rw [lp_X6_cheapest_24] at hf
    refine lv_iload hx hb dX6_cheapest_24 (lv_at hl 7 rfl) ?_
    refine lv_bipush (v := (8 : Int32)) hx hb dX6_cheapest_26 (by decide) ?_
    refine lv_icmp_ge (tgt := 120) hx hb dX6_cheapest_28 (by decide) (fun c2 => ?_) (fun c2 => ?_)
    · have hf := ob_pos c2 hf
      obtain rfl := Option.some.inj hf
      exact K _ _ _ hP hD hS (lv_sub hl [3] rfl)
    · have hf := ob_neg c2 hf
      refine lv_iload_n hx hb dX6_cheapest_31 rfl (lv_at hl 2 rfl) ?_
      refine lv_iload hx hb dX6_cheapest_32 (lv_at hl 7 rfl) ?_
      refine lv_ishr hx hb dX6_cheapest_34 ?_
      refine lv_iconst (v := (1 : Int32)) hx hb dX6_cheapest_35 (by decide) ?_
      refine lv_iand hx hb dX6_cheapest_36 ?_
      refine lv_iconst (v := (1 : Int32)) hx hb dX6_cheapest_37 (by decide) ?_
      refine lv_icmp_eq (tgt := 114) hx hb dX6_cheapest_38 (by decide) (fun c3 => ?_) (fun c3 => ?_)
      · have hf := ob_pos c3 hf
        refine lv_iinc (v := (y9 + (1 : Int32))) (lv' := [(9, .int (y9 + (1 : Int32))), (0, .ref a_this), (1, .ref a_H), (2, .int y2), (3, .int y3), (4, .long y4), (6, .int y6), (7, .long y7)]) hx hb dX6_cheapest_114 hl (k := 7) rfl rfl (by decide) rfl (fun ls hl => ?_)
        refine lv_goto (tgt := 24) hx hb dX6_cheapest_117 (by decide) ?_
        exact ih y3 y4 y6 (y9 + (1 : Int32)) v_rest v_payers _ _ _ _ hf K hP hD hS (lv_sub hl [1, 2, 3, 4, 5, 6, 7, 0] rfl)
      · have hf := ob_neg c3 hf
        refine lv_aload_n hx hb dX6_cheapest_41 rfl (lv_at hl 1 rfl) ?_
        refine lv_iload hx hb dX6_cheapest_42 (lv_at hl 7 rfl) ?_
        obtain ⟨q4, hq4, hf⟩ := ob_bind hf
        refine k_Vi (wo := (wd_X6_cheapest cyI cyJ cyZ a_H a_H_sets a_H_papers a_H_worths a_this a_upper v_H_count v_lower v_rest v_payers v_H_papers v_H_sets v_upper)) (As := [.int y9]) (rest := []) C (c_X3_telling l D cyI cyJ cyZ a_H a_H_sets a_H_papers a_H_worths v_H_count v_H_papers v_H_sets y9 q4 hq4) cw21 hP hD hS [0, 2, 3] [1, 4] [2, 0, 3, 4, 1] rfl rfl rfl (by decide) 0 (ci := 2) rfl rfl rfl rfl rfl hl.1 (Nat.le_of_ble_eq_true rfl) dX6_cheapest_44 ⟨Nat.zero_le _, Nat.zero_le _⟩ (fun H locs hP hD hS => ?_)
        refine lv_if_eq (tgt := 114) hx hb dX6_cheapest_47 (by decide) (fun c5 => ?_) (fun c5 => ?_)
        · have hf := ob_pos c5 hf
          refine lv_iinc (v := (y9 + (1 : Int32))) (lv' := [(9, .int (y9 + (1 : Int32))), (0, .ref a_this), (1, .ref a_H), (2, .int y2), (3, .int y3), (4, .long y4), (6, .int y6), (7, .long y7)]) hx hb dX6_cheapest_114 hl (k := 7) rfl rfl (by decide) rfl (fun ls hl => ?_)
          refine lv_goto (tgt := 24) hx hb dX6_cheapest_117 (by decide) ?_
          exact ih y3 y4 y6 (y9 + (1 : Int32)) v_rest v_payers _ _ _ _ hf K hP hD hS (lv_sub hl [1, 2, 3, 4, 5, 6, 7, 0] rfl)
        · have hf := ob_neg c5 hf
          refine lv_aload_n hx hb dX6_cheapest_50 rfl (lv_at hl 0 rfl) ?_
          refine lv_aload_n hx hb dX6_cheapest_51 rfl (lv_at hl 1 rfl) ?_
          refine lv_iload hx hb dX6_cheapest_52 (lv_at hl 7 rfl) ?_
          obtain ⟨q6, hq6, hf⟩ := ob_bind hf
          refine k_Ul (wo := (wd_X6_cheapest cyI cyJ cyZ a_H a_H_sets a_H_papers a_H_worths a_this a_upper v_H_count v_lower v_rest v_payers v_H_papers v_H_sets v_upper)) (As := [.ref a_H, .int y9]) (rest := []) C (c_X1_sumOf_X6 l D cyI cyJ cyZ a_H a_H_sets a_H_papers a_H_worths a_this a_upper v_H_count v_lower v_rest v_payers v_H_papers v_H_sets v_upper y9 q6 hq6) cw25 hP hD hS [0, 1, 2, 3, 4] [] [0, 1, 2, 3, 4] rfl rfl rfl (by decide) 1 (ci := 5) rfl rfl rfl rfl rfl hl.1 (Nat.le_of_ble_eq_true rfl) dX6_cheapest_54 ⟨Nat.zero_le _, Nat.zero_le _⟩ (fun H locs hP hD hS => ?_)
          refine lv_lload hx hb dX6_cheapest_57 (lv_at hl 6 rfl) ?_
          refine W.lcmp hx hb dX6_cheapest_59 ?_
          refine lv_if_ge (tgt := 66) hx hb dX6_cheapest_60 (by decide) (fun c7 => ?_) (fun c7 => ?_)
          · have hf := ob_pos c7 hf
            refine lv_aload_n hx hb dX6_cheapest_66 rfl (lv_at hl 0 rfl) ?_
            refine lv_aload_n hx hb dX6_cheapest_67 rfl (lv_at hl 1 rfl) ?_
            refine lv_iload hx hb dX6_cheapest_68 (lv_at hl 7 rfl) ?_
            obtain ⟨q8, hq8, hf⟩ := ob_bind hf
            refine k_Vv (wo := (wd_X6_cheapest cyI cyJ cyZ a_H a_H_sets a_H_papers a_H_worths a_this a_upper v_H_count v_lower q8.1 q8.2 v_H_papers v_H_sets v_upper)) (As := [.ref a_H, .int y9]) (rest := []) C (c_X6_price l D cyI cyJ cyZ a_H a_H_sets a_H_papers a_H_worths a_this a_upper v_H_count v_lower v_rest v_payers v_H_papers v_H_sets v_upper y9 q8 hq8) cw29 hP hD hS [0, 1, 2, 3, 4] [] [0, 1, 2, 3, 4] rfl rfl rfl (by decide) 1 (ci := 5) rfl rfl rfl rfl rfl hl.1 (Nat.le_of_ble_eq_true rfl) dX6_cheapest_70 ⟨Nat.zero_le _, Nat.zero_le _⟩ (fun H locs hP hD hS => ?_)
            refine lv_iload_n hx hb dX6_cheapest_73 rfl (lv_at hl 3 rfl) ?_
            refine lv_bipush (v := (-6 : Int32)) hx hb dX6_cheapest_74 (by decide) ?_
            refine lv_icmp_eq (tgt := 99) hx hb dX6_cheapest_76 (by decide) (fun c9 => ?_) (fun c9 => ?_)
            · have hf := ob_pos c9 hf
              refine lv_iload hx hb dX6_cheapest_99 (lv_at hl 7 rfl) ?_
              refine lv_istore_n (lv' := [(3, .int y9), (0, .ref a_this), (1, .ref a_H), (2, .int y2), (4, .long y4), (6, .int y6), (7, .long y7), (9, .int y9)]) hx hb dX6_cheapest_101 rfl hl (by decide) rfl (fun ls hl => ?_)
              refine lv_aload_n hx hb dX6_cheapest_102 rfl (lv_at hl 1 rfl) ?_
              refine va_get (D := D) (ci := 5) (v := .long q8.1) (C := RX6) (T := TX6) (N := 4) hx hb hts iX6 hown hK hP 1 rfl rfl 2 (by decide) fl33 (fun _ h9 => h9) rfl dX6_cheapest_103 ?_
              refine lv_lstore (lv' := [(4, .long q8.1), (3, .int y9), (0, .ref a_this), (1, .ref a_H), (2, .int y2), (6, .int y6), (7, .long y7), (9, .int y9)]) hx hb dX6_cheapest_106 hl (by decide) rfl (fun ls hl => ?_)
              refine lv_aload_n hx hb dX6_cheapest_108 rfl (lv_at hl 2 rfl) ?_
              refine va_get (D := D) (ci := 5) (v := .int q8.2) (C := RX6) (T := TX6) (N := 4) hx hb hts iX6 hown hK hP 1 rfl rfl 3 (by decide) fl36 (fun _ h9 => h9) rfl dX6_cheapest_109 ?_
              refine lv_istore (lv' := [(6, .int q8.2), (4, .long q8.1), (3, .int y9), (0, .ref a_this), (1, .ref a_H), (2, .int y2), (7, .long y7), (9, .int y9)]) hx hb dX6_cheapest_112 hl (by decide) rfl (fun ls hl => ?_)
              refine lv_iinc (v := (y9 + (1 : Int32))) (lv' := [(9, .int (y9 + (1 : Int32))), (6, .int q8.2), (4, .long q8.1), (3, .int y9), (0, .ref a_this), (1, .ref a_H), (2, .int y2), (7, .long y7)]) hx hb dX6_cheapest_114 hl (k := 7) rfl rfl (by decide) rfl (fun ls hl => ?_)
              refine lv_goto (tgt := 24) hx hb dX6_cheapest_117 (by decide) ?_
              exact ih y9 q8.1 q8.2 (y9 + (1 : Int32)) q8.1 q8.2 _ _ _ _ hf K hP hD hS (lv_sub hl [4, 5, 6, 3, 2, 1, 7, 0] rfl)
            · have hf := ob_neg c9 hf
              refine lv_aload_n hx hb dX6_cheapest_79 rfl (lv_at hl 0 rfl) ?_
              refine va_get (D := D) (ci := 5) (v := .long q8.1) (C := RX6) (T := TX6) (N := 4) hx hb hts iX6 hown hK hP 1 rfl rfl 2 (by decide) fl33 (fun _ h9 => h9) rfl dX6_cheapest_80 ?_
              refine lv_iload hx hb dX6_cheapest_83 (lv_at hl 5 rfl) ?_
              refine lv_i2l (v := (y6).toInt64) hx hb dX6_cheapest_85 rfl ?_
              refine lv_lmul hx hb dX6_cheapest_86 ?_
              refine lv_lload hx hb dX6_cheapest_87 (lv_at hl 4 rfl) ?_
              refine lv_aload_n hx hb dX6_cheapest_89 rfl (lv_at hl 0 rfl) ?_
              refine va_get (D := D) (ci := 5) (v := .int q8.2) (C := RX6) (T := TX6) (N := 4) hx hb hts iX6 hown hK hP 1 rfl rfl 3 (by decide) fl36 (fun _ h9 => h9) rfl dX6_cheapest_90 ?_
              refine lv_i2l (v := (q8.2).toInt64) hx hb dX6_cheapest_93 rfl ?_
              refine lv_lmul hx hb dX6_cheapest_94 ?_
              refine W.lcmp hx hb dX6_cheapest_95 ?_
              refine lv_if_ge (tgt := 114) hx hb dX6_cheapest_96 (by decide) (fun c10 => ?_) (fun c10 => ?_)
              · have hf := ob_pos c10 hf
                refine lv_iinc (v := (y9 + (1 : Int32))) (lv' := [(9, .int (y9 + (1 : Int32))), (0, .ref a_this), (1, .ref a_H), (2, .int y2), (3, .int y3), (4, .long y4), (6, .int y6), (7, .long y7)]) hx hb dX6_cheapest_114 hl (k := 7) rfl rfl (by decide) rfl (fun ls hl => ?_)
                refine lv_goto (tgt := 24) hx hb dX6_cheapest_117 (by decide) ?_
                exact ih y3 y4 y6 (y9 + (1 : Int32)) q8.1 q8.2 _ _ _ _ hf K hP hD hS (lv_sub hl [1, 2, 3, 4, 5, 6, 7, 0] rfl)
              · have hf := ob_neg c10 hf
                refine lv_iload hx hb dX6_cheapest_99 (lv_at hl 7 rfl) ?_
                refine lv_istore_n (lv' := [(3, .int y9), (0, .ref a_this), (1, .ref a_H), (2, .int y2), (4, .long y4), (6, .int y6), (7, .long y7), (9, .int y9)]) hx hb dX6_cheapest_101 rfl hl (by decide) rfl (fun ls hl => ?_)
                refine lv_aload_n hx hb dX6_cheapest_102 rfl (lv_at hl 1 rfl) ?_
                refine va_get (D := D) (ci := 5) (v := .long q8.1) (C := RX6) (T := TX6) (N := 4) hx hb hts iX6 hown hK hP 1 rfl rfl 2 (by decide) fl33 (fun _ h9 => h9) rfl dX6_cheapest_103 ?_
                refine lv_lstore (lv' := [(4, .long q8.1), (3, .int y9), (0, .ref a_this), (1, .ref a_H), (2, .int y2), (6, .int y6), (7, .long y7), (9, .int y9)]) hx hb dX6_cheapest_106 hl (by decide) rfl (fun ls hl => ?_)
                refine lv_aload_n hx hb dX6_cheapest_108 rfl (lv_at hl 2 rfl) ?_
                refine va_get (D := D) (ci := 5) (v := .int q8.2) (C := RX6) (T := TX6) (N := 4) hx hb hts iX6 hown hK hP 1 rfl rfl 3 (by decide) fl36 (fun _ h9 => h9) rfl dX6_cheapest_109 ?_
                refine lv_istore (lv' := [(6, .int q8.2), (4, .long q8.1), (3, .int y9), (0, .ref a_this), (1, .ref a_H), (2, .int y2), (7, .long y7), (9, .int y9)]) hx hb dX6_cheapest_112 hl (by decide) rfl (fun ls hl => ?_)
                refine lv_iinc (v := (y9 + (1 : Int32))) (lv' := [(9, .int (y9 + (1 : Int32))), (6, .int q8.2), (4, .long q8.1), (3, .int y9), (0, .ref a_this), (1, .ref a_H), (2, .int y2), (7, .long y7)]) hx hb dX6_cheapest_114 hl (k := 7) rfl rfl (by decide) rfl (fun ls hl => ?_)
                refine lv_goto (tgt := 24) hx hb dX6_cheapest_117 (by decide) ?_
                exact ih y9 q8.1 q8.2 (y9 + (1 : Int32)) q8.1 q8.2 _ _ _ _ hf K hP hD hS (lv_sub hl [4, 5, 6, 3, 2, 1, 7, 0] rfl)
          · have hf := ob_neg c7 hf
            refine lv_goto (tgt := 114) hx hb dX6_cheapest_63 (by decide) ?_
            refine lv_iinc (v := (y9 + (1 : Int32))) (lv' := [(9, .int (y9 + (1 : Int32))), (0, .ref a_this), (1, .ref a_H), (2, .int y2), (3, .int y3), (4, .long y4), (6, .int y6), (7, .long y7)]) hx hb dX6_cheapest_114 hl (k := 7) rfl rfl (by decide) rfl (fun ls hl => ?_)
            refine lv_goto (tgt := 24) hx hb dX6_cheapest_117 (by decide) ?_
            exact ih y3 y4 y6 (y9 + (1 : Int32)) v_rest v_payers _ _ _ _ hf K hP hD hS (lv_sub hl [1, 2, 3, 4, 5, 6, 7, 0] rfl)
set_option maxHeartbeats 4000000 in
set_option maxRecDepth 100000 in
theorem c_X6_cheapest (l : Launch) (D : va_G) (cyI cyJ cyZ : ClassId) (a_H a_H_sets a_H_papers a_H_worths a_this a_upper : Nat) (v_H_count : Int32) (v_lower : Int64) (v_rest : Int64) (v_payers : Int32) (v_H_papers : Nat → Int32) (v_H_sets : Nat → Int32) (v_upper : Nat → Int64) (x2 : Int32) (q : Int32 × Int64 × Int32) (hf : f_X6_cheapest x2 v_H_count v_lower v_rest v_payers v_H_papers v_H_sets v_upper = some q) : kMi l yX6_cheapest wsX6_cheapest rm_X6_cheapest D (kTy cyI cyJ cyZ) [.ref a_this, .ref a_H, .int x2] (wd_X6_cheapest cyI cyJ cyZ a_H a_H_sets a_H_papers a_H_worths a_this a_upper v_H_count v_lower v_rest v_payers v_H_papers v_H_sets v_upper) (wd_X6_cheapest cyI cyJ cyZ a_H a_H_sets a_H_papers a_H_worths a_this a_upper v_H_count v_lower q.2.1 q.2.2 v_H_papers v_H_sets v_upper) q.1 := by
  refine kMi_of (cc := cX6_cheapest) (nL := 10) (own := RX6) (by decide) rfl rfl (Nat.le_of_ble_eq_true rfl) ?_
  intro p e s m below meth c A Q ls C hret hP hD hS hl
  have hl : lv_has ls 10 [(0, .ref a_this), (1, .ref a_H), (2, .int x2)] := hl
  unfold f_X6_cheapest at hf
  obtain ⟨hx, hb, hml, hown, hts, hK, hA⟩ := id C
  have iX6 : ∀ w ∈ u_ws RX6 TX6 4, w ∈ wsX6_cheapest := by decide +kernel
  have fl15 := hts (.fieldLink RX6 15 "FairSeats$Purses" "lower" "J") (by decide +kernel)
  have sflower := hts (.sameField "FairSeats$Purses" "FairSeats$Fractions" "lower" "J") (by decide +kernel)
  have cw9 := cwV (R := rm_X6_cheapest) (rm := rm_X3_total) 0 hts gX6_cheapest_X3_total rfl rfl rfl (by decide +kernel) ⟨Nat.le_of_ble_eq_true rfl, Nat.le_of_ble_eq_true rfl⟩
  refine lv_bipush (v := (-6 : Int32)) hx hb dX6_cheapest_0 (by decide) ?_
  refine lv_istore_n (lv' := [(3, .int (-6 : Int32)), (0, .ref a_this), (1, .ref a_H), (2, .int x2)]) hx hb dX6_cheapest_2 rfl hl (by decide) rfl (fun ls hl => ?_)
  refine lv_lconst (v := 0) hx hb dX6_cheapest_3 (by decide) ?_
  refine lv_lstore (lv' := [(4, .long (0 : Int64)), (3, .int (-6 : Int32)), (0, .ref a_this), (1, .ref a_H), (2, .int x2)]) hx hb dX6_cheapest_4 hl (by decide) rfl (fun ls hl => ?_)
  refine lv_iconst (v := (0 : Int32)) hx hb dX6_cheapest_6 (by decide) ?_
  refine lv_istore (lv' := [(6, .int (0 : Int32)), (4, .long (0 : Int64)), (3, .int (-6 : Int32)), (0, .ref a_this), (1, .ref a_H), (2, .int x2)]) hx hb dX6_cheapest_7 hl (by decide) rfl (fun ls hl => ?_)
  refine lv_aload_n hx hb dX6_cheapest_9 rfl (lv_at hl 4 rfl) ?_
  obtain ⟨q1, hq1, hf⟩ := ob_bind hf
  refine k_Vi (wo := (wd_X6_cheapest cyI cyJ cyZ a_H a_H_sets a_H_papers a_H_worths a_this a_upper v_H_count v_lower v_rest v_payers v_H_papers v_H_sets v_upper)) (As := []) (rest := []) C (c_X3_total l D cyI cyJ cyZ a_H a_H_sets a_H_papers a_H_worths v_H_count v_H_papers  q1 hq1) cw9 hP hD hS [0, 2] [1, 3, 4] [3, 0, 4, 1, 2] rfl rfl rfl (by decide) 0 (ci := 2) rfl rfl rfl rfl rfl hl.1 (Nat.le_of_ble_eq_true rfl) dX6_cheapest_10 ⟨Nat.zero_le _, Nat.zero_le _⟩ (fun H locs hP hD hS => ?_)
  refine lv_i2l (v := (q1).toInt64) hx hb dX6_cheapest_13 rfl ?_
  refine lv_aload_n hx hb dX6_cheapest_14 rfl (lv_at hl 3 rfl) ?_
  refine va_get (D := D) (ci := 5) (v := .long v_lower) (C := RX6) (T := TX6) (N := 4) hx hb hts iX6 hown hK hP 1 rfl rfl 1 (by decide) fl15 (fun x9 h9 => u_same sflower x9 h9) rfl dX6_cheapest_15 ?_
  refine lv_lmul hx hb dX6_cheapest_18 ?_
  refine lv_lstore (lv' := [(7, .long ((q1).toInt64 * v_lower)), (6, .int (0 : Int32)), (4, .long (0 : Int64)), (3, .int (-6 : Int32)), (0, .ref a_this), (1, .ref a_H), (2, .int x2)]) hx hb dX6_cheapest_19 hl (by decide) rfl (fun ls hl => ?_)
  refine lv_iconst (v := (0 : Int32)) hx hb dX6_cheapest_21 (by decide) ?_
  refine lv_istore (lv' := [(9, .int (0 : Int32)), (7, .long ((q1).toInt64 * v_lower)), (6, .int (0 : Int32)), (4, .long (0 : Int64)), (3, .int (-6 : Int32)), (0, .ref a_this), (1, .ref a_H), (2, .int x2)]) hx hb dX6_cheapest_22 hl (by decide) rfl (fun ls hl => ?_)
  obtain ⟨q11, hq11, hf⟩ := ob_bind hf
  refine wl_X6_cheapest_24 C FU (-6 : Int32) (0 : Int64) (0 : Int32) (0 : Int32) v_rest v_payers _ _ _ _ hq11 (fun H locs ls hP hD hS hl => ?_) hP hD hS (lv_sub hl [5, 6, 7, 4, 3, 2, 1, 0] rfl)
  refine lv_iload_n hx hb dX6_cheapest_120 rfl (lv_at hl 0 rfl) ?_
  obtain rfl := Option.some.inj hf
  exact hret _ _ _ _ dX6_cheapest_121 hP hD hS
abbrev rm_X1_widen_X6 : Room := { frames := 0, cells := 0, slots := 0, locals := 0 }
abbrev wd_X1_widen_X6 (cyI cyJ cyZ : ClassId) (a_this a_upper : Nat) (v_lower : Int64) (v_rest : Int64) (v_payers : Int32) (v_upper : Nat → Int64) : va_W := [(a_this, .inr (5, [.ref a_upper, .long v_lower, .long v_rest, .int v_payers])), (a_upper, .inl (cyJ, 7, .inr (.inl v_upper)))]
def lp_X1_widen_X6_2 (y1 : Int32) : Nat → Int32 → (Nat → Int64) → Option ((Nat → Int64))
  | 0, _, _ => none
  | n + 1, y2, v_upper => (if (6 : Int32) < y2 then some v_upper else (if ob_in y2 7 = true then (if ob_in y2 7 = true then lp_X1_widen_X6_2 y1 n (y2 + (1 : Int32)) (vp_updL v_upper y2.toNatClampNeg ((v_upper y2.toNatClampNeg) * (y1).toInt64)) else none) else none))
def f_X1_widen_X6 (x1 : Int32) (v_lower : Int64) (v_upper : Nat → Int64) : Option (Int64 × (Nat → Int64)) := (lp_X1_widen_X6_2 x1 FU (0 : Int32) v_upper).bind (fun q4 => some ((v_lower * (x1).toInt64), q4))
set_option maxHeartbeats 4000000 in
set_option maxRecDepth 100000 in
theorem wl_X1_widen_X6_2 {p : Program} {l : Launch} {e : Env} {s : State} {m : MethodId} {args : Array Value} {below : List Frame} {meth : Method} {c : Code} {A : Nat → Prop} {Q : State → Prop} {D : va_G} {cyI cyJ cyZ : ClassId} {a_this a_upper : Nat} {y1 : Int32} {v_lower : Int64} {v_rest : Int64} {v_payers : Int32} (C : kC p s m args c cX1_widen 3 RX1 wsX1_widen D (kTy cyI cyJ cyZ) A) :
    ∀ (n : Nat) (y2 : Int32) (v_upper : Nat → Int64) (q : (Nat → Int64)) (H : Heap) (locs : List Loc) (ls : Array Slot), lp_X1_widen_X6_2 y1 n y2 v_upper = some q → (∀ (H : Heap) (locs : List Loc) (ls : Array Slot), va_P D vwCl (wd_X1_widen_X6 cyI cyJ cyZ a_this a_upper v_lower v_rest v_payers q) H → va_D A (wd_X1_widen_X6 cyI cyJ cyZ a_this a_upper v_lower v_rest v_payers q) → va_S A s.heap H locs → lv_has ls 3 [(0, .ref a_this), (1, .int y1)] → W p l e rm_X1_widen_X6 s m args below meth c H locs 0 0 Q (F0 m 25 ls [])) → va_P D vwCl (wd_X1_widen_X6 cyI cyJ cyZ a_this a_upper v_lower v_rest v_payers v_upper) H → va_D A (wd_X1_widen_X6 cyI cyJ cyZ a_this a_upper v_lower v_rest v_payers v_upper) → va_S A s.heap H locs → lv_has ls 3 [(0, .ref a_this), (1, .int y1), (2, .int y2)] → W p l e rm_X1_widen_X6 s m args below meth c H locs 0 0 Q (F0 m 2 ls []) := by
  obtain ⟨hx, hb, hml, hown, hts, hK, hA⟩ := id C
  have iX6 : ∀ w ∈ u_ws RX6 TX6 4, w ∈ wsX1_widen := by decide +kernel
  have fl9 := hts (.fieldLink RX1 9 "FairSeats$Fractions" "upper" "[J") (by decide +kernel)
  intro n
  induction n with
  | zero =>
    intro y2 v_upper q H locs ls hf K hP hD hS hl
    rw [lp_X1_widen_X6_2] at hf
    cases hf
  | succ n ih =>
    intro y2 v_upper q H locs ls hf K hP hD hS hl
    rw [lp_X1_widen_X6_2] at hf
    refine lv_iload_n hx hb dX1_widen_2 rfl (lv_at hl 2 rfl) ?_
    refine lv_bipush (v := (6 : Int32)) hx hb dX1_widen_3 (by decide) ?_
    refine lv_icmp_gt (tgt := 25) hx hb dX1_widen_5 (by decide) (fun c1 => ?_) (fun c1 => ?_)
    · have hf := ob_pos c1 hf
      obtain rfl := Option.some.inj hf
      exact K _ _ _ hP hD hS (lv_sub hl [0, 1] rfl)
    · have hf := ob_neg c1 hf
      refine lv_aload_n hx hb dX1_widen_8 rfl (lv_at hl 0 rfl) ?_
      refine va_get (D := D) (ci := 5) (v := .ref a_upper) (C := RX6) (T := TX6) (N := 4) hx hb hts iX6 hown hK hP 0 rfl rfl 0 (by decide) fl9 (fun _ h9 => h9) rfl dX1_widen_9 ?_
      refine lv_iload_n hx hb dX1_widen_12 rfl (lv_at hl 2 rfl) ?_
      refine lv_dup2_11 hx hb dX1_widen_13 rfl rfl ?_
      obtain ⟨h2, hf⟩ := og_in hf
      refine va_lald hx hb hK hP 1 1 rfl rfl h2 dX1_widen_14 ?_
      refine lv_iload_n hx hb dX1_widen_15 rfl (lv_at hl 1 rfl) ?_
      refine lv_i2l (v := (y1).toInt64) hx hb dX1_widen_16 rfl ?_
      refine lv_lmul hx hb dX1_widen_17 ?_
      obtain ⟨h3, hf⟩ := og_in hf
      refine va_last hx hb hK hP hD hS 1 1 rfl rfl h3 dX1_widen_18 (fun H locs hP hD hS => ?_)
      have hP : va_P D vwCl (wd_X1_widen_X6 cyI cyJ cyZ a_this a_upper v_lower v_rest v_payers (vp_updL v_upper y2.toNatClampNeg ((v_upper y2.toNatClampNeg) * (y1).toInt64))) H := hP
      have hD : va_D A (wd_X1_widen_X6 cyI cyJ cyZ a_this a_upper v_lower v_rest v_payers (vp_updL v_upper y2.toNatClampNeg ((v_upper y2.toNatClampNeg) * (y1).toInt64))) := hD
      refine lv_iinc (v := (y2 + (1 : Int32))) (lv' := [(2, .int (y2 + (1 : Int32))), (0, .ref a_this), (1, .int y1)]) hx hb dX1_widen_19 hl (k := 2) rfl rfl (by decide) rfl (fun ls hl => ?_)
      refine lv_goto (tgt := 2) hx hb dX1_widen_22 (by decide) ?_
      exact ih (y2 + (1 : Int32)) (vp_updL v_upper y2.toNatClampNeg ((v_upper y2.toNatClampNeg) * (y1).toInt64)) _ _ _ _ hf K hP hD hS (lv_sub hl [1, 2, 0] rfl)
set_option maxHeartbeats 4000000 in
set_option maxRecDepth 100000 in
theorem c_X1_widen_X6 (l : Launch) (D : va_G) (cyI cyJ cyZ : ClassId) (a_this a_upper : Nat) (v_lower : Int64) (v_rest : Int64) (v_payers : Int32) (v_upper : Nat → Int64) (x1 : Int32) (q : Int64 × (Nat → Int64)) (hf : f_X1_widen_X6 x1 v_lower v_upper = some q) : kMv l yX1_widen wsX1_widen rm_X1_widen_X6 D (kTy cyI cyJ cyZ) [.ref a_this, .int x1] (wd_X1_widen_X6 cyI cyJ cyZ a_this a_upper v_lower v_rest v_payers v_upper) (wd_X1_widen_X6 cyI cyJ cyZ a_this a_upper q.1 v_rest v_payers q.2) := by
  refine kMv_of (cc := cX1_widen) (nL := 3) (own := RX1) (by decide) rfl rfl (Nat.le_of_ble_eq_true rfl) ?_
  intro p e s m below meth c A Q ls C hret hP hD hS hl
  have hl : lv_has ls 3 [(0, .ref a_this), (1, .int x1)] := hl
  unfold f_X1_widen_X6 at hf
  obtain ⟨hx, hb, hml, hown, hts, hK, hA⟩ := id C
  have iX6 : ∀ w ∈ u_ws RX6 TX6 4, w ∈ wsX1_widen := by decide +kernel
  have fl15 := hts (.fieldLink RX1 15 "FairSeats$Fractions" "lower" "J") (by decide +kernel)
  refine lv_iconst (v := (0 : Int32)) hx hb dX1_widen_0 (by decide) ?_
  refine lv_istore_n (lv' := [(2, .int (0 : Int32)), (0, .ref a_this), (1, .int x1)]) hx hb dX1_widen_1 rfl hl (by decide) rfl (fun ls hl => ?_)
  obtain ⟨q4, hq4, hf⟩ := ob_bind hf
  refine wl_X1_widen_X6_2 C FU (0 : Int32) v_upper _ _ _ _ hq4 (fun H locs ls hP hD hS hl => ?_) hP hD hS (lv_sub hl [1, 2, 0] rfl)
  refine lv_aload_n hx hb dX1_widen_25 rfl (lv_at hl 0 rfl) ?_
  refine lv_dup hx hb dX1_widen_26 rfl ?_
  refine va_get (D := D) (ci := 5) (v := .long v_lower) (C := RX6) (T := TX6) (N := 4) hx hb hts iX6 hown hK hP 0 rfl rfl 1 (by decide) fl15 (fun _ h9 => h9) rfl dX1_widen_27 ?_
  refine lv_iload_n hx hb dX1_widen_30 rfl (lv_at hl 1 rfl) ?_
  refine lv_i2l (v := (x1).toInt64) hx hb dX1_widen_31 rfl ?_
  refine lv_lmul hx hb dX1_widen_32 ?_
  refine va_put (D := D) (ci := 5) (v := .long (v_lower * (x1).toInt64)) (ty := .long) (C := RX6) (T := TX6) (N := 4) hx hb hts iX6 tyX6 tyX6_ok nmX6 hown hK hP hD hS 0 rfl rfl 1 (by decide) fl15 (fun _ h9 => h9) rfl (by decide +kernel) rfl rfl (Nat.le_of_ble_eq_true rfl) dX1_widen_33 (fun H locs hP hD hS => ?_)
  have hP : va_P D vwCl (wd_X1_widen_X6 cyI cyJ cyZ a_this a_upper (v_lower * (x1).toInt64) v_rest v_payers q4) H := hP
  have hD : va_D A (wd_X1_widen_X6 cyI cyJ cyZ a_this a_upper (v_lower * (x1).toInt64) v_rest v_payers q4) := hD
  obtain rfl := Option.some.inj hf
  exact hret _ _ _ _ dX1_widen_36 hP hD hS
abbrev rm_X6_pay : Room := { frames := 3, cells := 0, slots := 0, locals := 75 }
abbrev wd_X6_pay (cyI cyJ cyZ : ClassId) (a_H a_H_sets a_H_papers a_H_worths a_this a_upper : Nat) (v_H_count : Int32) (v_lower : Int64) (v_rest : Int64) (v_payers : Int32) (v_H_papers : Nat → Int32) (v_H_sets : Nat → Int32) (v_upper : Nat → Int64) : va_W := [(a_H, .inr (2, [.ref a_H_sets, .ref a_H_papers, .ref a_H_worths, .int v_H_count])), (a_this, .inr (5, [.ref a_upper, .long v_lower, .long v_rest, .int v_payers])), (a_H_papers, .inl (cyI, 7, .inl v_H_papers)), (a_H_sets, .inl (cyI, 7, .inl v_H_sets)), (a_upper, .inl (cyJ, 7, .inr (.inl v_upper)))]
def lp_X6_pay_16 (y2 : Int32) (v_H_count : Int32) (v_rest : Int64) (v_H_sets : Nat → Int32) : Nat → Int32 → (Nat → Int64) → Option ((Nat → Int64))
  | 0, _, _ => none
  | n + 1, y3, v_upper => (if v_H_count ≤ y3 then some v_upper else (f_X3_tells y3 y2 v_H_sets).bind (fun q4 => (if q4 = 0 then lp_X6_pay_16 y2 v_H_count v_rest v_H_sets n (y3 + (1 : Int32)) v_upper else (if ob_in y3 7 = true then (if ob_in y3 7 = true then lp_X6_pay_16 y2 v_H_count v_rest v_H_sets n (y3 + (1 : Int32)) (vp_updL v_upper y3.toNatClampNeg (if ((v_upper y3.toNatClampNeg) - v_rest) < (0 : Int64) then (0 : Int64) else ((v_upper y3.toNatClampNeg) - v_rest))) else none) else none))))
def f_X6_pay (x2 : Int32) (v_H_count : Int32) (v_lower : Int64) (v_rest : Int64) (v_payers : Int32) (v_H_papers : Nat → Int32) (v_H_sets : Nat → Int32) (v_upper : Nat → Int64) : Option (Int64 × Int64 × Int32 × (Nat → Int64)) := (f_X6_price x2 v_H_count v_lower v_rest v_payers v_H_papers v_H_sets v_upper).bind (fun q1 => (f_X1_widen_X6 q1.2 v_lower v_upper).bind (fun q2 => (lp_X6_pay_16 x2 v_H_count q1.1 v_H_sets FU (0 : Int32) q2.2).bind (fun q8 => some (q2.1, q1.1, q1.2, q8))))
set_option maxHeartbeats 4000000 in
set_option maxRecDepth 100000 in
theorem wl_X6_pay_16 {p : Program} {l : Launch} {e : Env} {s : State} {m : MethodId} {args : Array Value} {below : List Frame} {meth : Method} {c : Code} {A : Nat → Prop} {Q : State → Prop} {D : va_G} {cyI cyJ cyZ : ClassId} {a_H a_H_sets a_H_papers a_H_worths a_this a_upper : Nat} {y2 : Int32} {v_H_count : Int32} {v_lower : Int64} {v_rest : Int64} {v_payers : Int32} {v_H_papers : Nat → Int32} {v_H_sets : Nat → Int32} (C : kC p s m args c cX6_pay 4 RX6 wsX6_pay D (kTy cyI cyJ cyZ) A) :
    ∀ (n : Nat) (y3 : Int32) (v_upper : Nat → Int64) (q : (Nat → Int64)) (H : Heap) (locs : List Loc) (ls : Array Slot), lp_X6_pay_16 y2 v_H_count v_rest v_H_sets n y3 v_upper = some q → (∀ (H : Heap) (locs : List Loc) (ls : Array Slot), va_P D vwCl (wd_X6_pay cyI cyJ cyZ a_H a_H_sets a_H_papers a_H_worths a_this a_upper v_H_count v_lower v_rest v_payers v_H_papers v_H_sets q) H → va_D A (wd_X6_pay cyI cyJ cyZ a_H a_H_sets a_H_papers a_H_worths a_this a_upper v_H_count v_lower v_rest v_payers v_H_papers v_H_sets q) → va_S A s.heap H locs → lv_has ls 4 [] → W p l e rm_X6_pay s m args below meth c H locs 0 0 Q (F0 m 60 ls [])) → va_P D vwCl (wd_X6_pay cyI cyJ cyZ a_H a_H_sets a_H_papers a_H_worths a_this a_upper v_H_count v_lower v_rest v_payers v_H_papers v_H_sets v_upper) H → va_D A (wd_X6_pay cyI cyJ cyZ a_H a_H_sets a_H_papers a_H_worths a_this a_upper v_H_count v_lower v_rest v_payers v_H_papers v_H_sets v_upper) → va_S A s.heap H locs → lv_has ls 4 [(0, .ref a_this), (1, .ref a_H), (2, .int y2), (3, .int y3)] → W p l e rm_X6_pay s m args below meth c H locs 0 0 Q (F0 m 16 ls []) := by
  obtain ⟨hx, hb, hml, hown, hts, hK, hA⟩ := id C
  have iX3 : ∀ w ∈ u_ws RX3 TX3 4, w ∈ wsX6_pay := by decide +kernel
  have iX6 : ∀ w ∈ u_ws RX6 TX6 4, w ∈ wsX6_pay := by decide +kernel
  have fl33 := hts (.fieldLink RX6 33 "FairSeats$Purses" "rest" "J") (by decide +kernel)
  have fl40 := hts (.fieldLink RX6 40 "FairSeats$Heaps" "count" "I") (by decide +kernel)
  have fl47 := hts (.fieldLink RX6 47 "FairSeats$Purses" "upper" "[J") (by decide +kernel)
  have sfupper := hts (.sameField "FairSeats$Purses" "FairSeats$Fractions" "upper" "[J") (by decide +kernel)
  have lk59 := hts (.methodLink RX6 59 Lib.MathLoose.max_long.x) (by decide +kernel)
  have ls59 := hts (.static Lib.MathLoose.max_long.x) (by decide +kernel)
  have li59 := hts (.initialized "java/lang/Math") (by decide +kernel)
  have lc59 := hts (.code Lib.MathLoose.max_long.x Lib.MathLoose.max_long.code 4 (some .long)) (by decide +kernel)
  have cw43 := cwV (R := rm_X6_pay) (rm := rm_X3_tells) 2 hts gX6_pay_X3_tells rfl rfl rfl (by decide +kernel) ⟨Nat.le_of_ble_eq_true rfl, Nat.le_of_ble_eq_true rfl⟩
  intro n
  induction n with
  | zero =>
    intro y3 v_upper q H locs ls hf K hP hD hS hl
    rw [lp_X6_pay_16] at hf
    cases hf
  | succ n ih =>
    intro y3 v_upper q H locs ls hf K hP hD hS hl
    rw [lp_X6_pay_16] at hf
    refine lv_iload_n hx hb dX6_pay_16 rfl (lv_at hl 3 rfl) ?_
    refine lv_aload_n hx hb dX6_pay_17 rfl (lv_at hl 1 rfl) ?_
    refine va_get (D := D) (ci := 2) (v := .int v_H_count) (C := RX3) (T := TX3) (N := 4) hx hb hts iX3 hown hK hP 0 rfl rfl 3 (by decide) fl40 (fun _ h9 => h9) rfl dX6_pay_18 ?_
    refine lv_icmp_ge (tgt := 60) hx hb dX6_pay_21 (by decide) (fun c3 => ?_) (fun c3 => ?_)
    · have hf := ob_pos c3 hf
      obtain rfl := Option.some.inj hf
      exact K _ _ _ hP hD hS (lv_sub hl [] rfl)
    · have hf := ob_neg c3 hf
      refine lv_aload_n hx hb dX6_pay_24 rfl (lv_at hl 1 rfl) ?_
      refine lv_iload_n hx hb dX6_pay_25 rfl (lv_at hl 3 rfl) ?_
      refine lv_iload_n hx hb dX6_pay_26 rfl (lv_at hl 2 rfl) ?_
      obtain ⟨q4, hq4, hf⟩ := ob_bind hf
      refine k_Vz (wo := (wd_X6_pay cyI cyJ cyZ a_H a_H_sets a_H_papers a_H_worths a_this a_upper v_H_count v_lower v_rest v_payers v_H_papers v_H_sets v_upper)) (As := [.int y3, .int y2]) (rest := []) C (c_X3_tells l D cyI cyJ cyZ a_H a_H_sets a_H_papers a_H_worths v_H_count v_H_sets y3 y2 q4 hq4) cw43 hP hD hS [0, 3] [1, 2, 4] [3, 0, 1, 4, 2] rfl rfl rfl (by decide) 0 (ci := 2) rfl rfl rfl rfl rfl hl.1 (Nat.le_of_ble_eq_true rfl) dX6_pay_27 ⟨Nat.zero_le _, Nat.zero_le _⟩ (fun H locs zq4 hP hD hS => ?_)
      refine lv_if_eq (tgt := 54) hx hb dX6_pay_30 (by decide) (fun c5 => ?_) (fun c5 => ?_)
      · have hf := ob_pos c5 hf
        refine lv_iinc (v := (y3 + (1 : Int32))) (lv' := [(3, .int (y3 + (1 : Int32))), (0, .ref a_this), (1, .ref a_H), (2, .int y2)]) hx hb dX6_pay_54 hl (k := 3) rfl rfl (by decide) rfl (fun ls hl => ?_)
        refine lv_goto (tgt := 16) hx hb dX6_pay_57 (by decide) ?_
        exact ih (y3 + (1 : Int32)) v_upper _ _ _ _ hf K hP hD hS (lv_sub hl [1, 2, 3, 0] rfl)
      · have hf := ob_neg c5 hf
        refine lv_aload_n hx hb dX6_pay_33 rfl (lv_at hl 0 rfl) ?_
        refine va_get (D := D) (ci := 5) (v := .ref a_upper) (C := RX6) (T := TX6) (N := 4) hx hb hts iX6 hown hK hP 1 rfl rfl 0 (by decide) fl47 (fun x9 h9 => u_same sfupper x9 h9) rfl dX6_pay_34 ?_
        refine lv_iload_n hx hb dX6_pay_37 rfl (lv_at hl 3 rfl) ?_
        refine lv_lconst (v := 0) hx hb dX6_pay_38 (by decide) ?_
        refine lv_aload_n hx hb dX6_pay_39 rfl (lv_at hl 0 rfl) ?_
        refine va_get (D := D) (ci := 5) (v := .ref a_upper) (C := RX6) (T := TX6) (N := 4) hx hb hts iX6 hown hK hP 1 rfl rfl 0 (by decide) fl47 (fun x9 h9 => u_same sfupper x9 h9) rfl dX6_pay_40 ?_
        refine lv_iload_n hx hb dX6_pay_43 rfl (lv_at hl 3 rfl) ?_
        obtain ⟨h6, hf⟩ := og_in hf
        refine va_lald hx hb hK hP 4 1 rfl rfl h6 dX6_pay_44 ?_
        refine lv_aload_n hx hb dX6_pay_45 rfl (lv_at hl 0 rfl) ?_
        refine va_get (D := D) (ci := 5) (v := .long v_rest) (C := RX6) (T := TX6) (N := 4) hx hb hts iX6 hown hK hP 1 rfl rfl 2 (by decide) fl33 (fun _ h9 => h9) rfl dX6_pay_46 ?_
        refine lv_lsub hx hb dX6_pay_49 ?_
        refine va_mmax_long hx hb (by rw [hml]; exact hl.1.symm) hown lk59 ls59 li59 lc59 (Nat.le_of_ble_eq_true rfl) (Nat.le_of_ble_eq_true rfl) (Nat.zero_le _) (Nat.zero_le _) dX6_pay_50 ?_
        obtain ⟨h7, hf⟩ := og_in hf
        refine va_last hx hb hK hP hD hS 4 1 rfl rfl h7 dX6_pay_53 (fun H locs hP hD hS => ?_)
        have hP : va_P D vwCl (wd_X6_pay cyI cyJ cyZ a_H a_H_sets a_H_papers a_H_worths a_this a_upper v_H_count v_lower v_rest v_payers v_H_papers v_H_sets (vp_updL v_upper y3.toNatClampNeg (if ((v_upper y3.toNatClampNeg) - v_rest) < (0 : Int64) then (0 : Int64) else ((v_upper y3.toNatClampNeg) - v_rest)))) H := hP
        have hD : va_D A (wd_X6_pay cyI cyJ cyZ a_H a_H_sets a_H_papers a_H_worths a_this a_upper v_H_count v_lower v_rest v_payers v_H_papers v_H_sets (vp_updL v_upper y3.toNatClampNeg (if ((v_upper y3.toNatClampNeg) - v_rest) < (0 : Int64) then (0 : Int64) else ((v_upper y3.toNatClampNeg) - v_rest)))) := hD
        refine lv_iinc (v := (y3 + (1 : Int32))) (lv' := [(3, .int (y3 + (1 : Int32))), (0, .ref a_this), (1, .ref a_H), (2, .int y2)]) hx hb dX6_pay_54 hl (k := 3) rfl rfl (by decide) rfl (fun ls hl => ?_)
        refine lv_goto (tgt := 16) hx hb dX6_pay_57 (by decide) ?_
        exact ih (y3 + (1 : Int32)) (vp_updL v_upper y3.toNatClampNeg (if ((v_upper y3.toNatClampNeg) - v_rest) < (0 : Int64) then (0 : Int64) else ((v_upper y3.toNatClampNeg) - v_rest))) _ _ _ _ hf K hP hD hS (lv_sub hl [1, 2, 3, 0] rfl)
set_option maxHeartbeats 4000000 in
set_option maxRecDepth 100000 in
theorem c_X6_pay (l : Launch) (D : va_G) (cyI cyJ cyZ : ClassId) (a_H a_H_sets a_H_papers a_H_worths a_this a_upper : Nat) (v_H_count : Int32) (v_lower : Int64) (v_rest : Int64) (v_payers : Int32) (v_H_papers : Nat → Int32) (v_H_sets : Nat → Int32) (v_upper : Nat → Int64) (x2 : Int32) (q : Int64 × Int64 × Int32 × (Nat → Int64)) (hf : f_X6_pay x2 v_H_count v_lower v_rest v_payers v_H_papers v_H_sets v_upper = some q) : kMv l yX6_pay wsX6_pay rm_X6_pay D (kTy cyI cyJ cyZ) [.ref a_this, .ref a_H, .int x2] (wd_X6_pay cyI cyJ cyZ a_H a_H_sets a_H_papers a_H_worths a_this a_upper v_H_count v_lower v_rest v_payers v_H_papers v_H_sets v_upper) (wd_X6_pay cyI cyJ cyZ a_H a_H_sets a_H_papers a_H_worths a_this a_upper v_H_count q.1 q.2.1 q.2.2.1 v_H_papers v_H_sets q.2.2.2) := by
  refine kMv_of (cc := cX6_pay) (nL := 4) (own := RX6) (by decide) rfl rfl (Nat.le_of_ble_eq_true rfl) ?_
  intro p e s m below meth c A Q ls C hret hP hD hS hl
  have hl : lv_has ls 4 [(0, .ref a_this), (1, .ref a_H), (2, .int x2)] := hl
  unfold f_X6_pay at hf
  obtain ⟨hx, hb, hml, hown, hts, hK, hA⟩ := id C
  have iX6 : ∀ w ∈ u_ws RX6 TX6 4, w ∈ wsX6_pay := by decide +kernel
  have fl36 := hts (.fieldLink RX6 36 "FairSeats$Purses" "payers" "I") (by decide +kernel)
  have cw29 := cwV (R := rm_X6_pay) (rm := rm_X6_price) 2 hts gX6_pay_X6_price rfl rfl rfl (by decide +kernel) ⟨Nat.le_of_ble_eq_true rfl, Nat.le_of_ble_eq_true rfl⟩
  have cw55 := va_cwU (R := rm_X6_pay) (rm := rm_X1_widen_X6) 1 hts gX6_pay_X1_widen_u55X6 rfl rfl rfl rfl (by decide +kernel) ⟨Nat.le_of_ble_eq_true rfl, Nat.le_of_ble_eq_true rfl⟩
  refine lv_aload_n hx hb dX6_pay_0 rfl (lv_at hl 0 rfl) ?_
  refine lv_aload_n hx hb dX6_pay_1 rfl (lv_at hl 1 rfl) ?_
  refine lv_iload_n hx hb dX6_pay_2 rfl (lv_at hl 2 rfl) ?_
  obtain ⟨q1, hq1, hf⟩ := ob_bind hf
  refine k_Vv (wo := (wd_X6_pay cyI cyJ cyZ a_H a_H_sets a_H_papers a_H_worths a_this a_upper v_H_count v_lower q1.1 q1.2 v_H_papers v_H_sets v_upper)) (As := [.ref a_H, .int x2]) (rest := []) C (c_X6_price l D cyI cyJ cyZ a_H a_H_sets a_H_papers a_H_worths a_this a_upper v_H_count v_lower v_rest v_payers v_H_papers v_H_sets v_upper x2 q1 hq1) cw29 hP hD hS [0, 1, 2, 3, 4] [] [0, 1, 2, 3, 4] rfl rfl rfl (by decide) 1 (ci := 5) rfl rfl rfl rfl rfl hl.1 (Nat.le_of_ble_eq_true rfl) dX6_pay_3 ⟨Nat.zero_le _, Nat.zero_le _⟩ (fun H locs hP hD hS => ?_)
  refine lv_aload_n hx hb dX6_pay_6 rfl (lv_at hl 0 rfl) ?_
  refine lv_aload_n hx hb dX6_pay_7 rfl (lv_at hl 0 rfl) ?_
  refine va_get (D := D) (ci := 5) (v := .int q1.2) (C := RX6) (T := TX6) (N := 4) hx hb hts iX6 hown hK hP 1 rfl rfl 3 (by decide) fl36 (fun _ h9 => h9) rfl dX6_pay_8 ?_
  obtain ⟨q2, hq2, hf⟩ := ob_bind hf
  refine k_Uv (wo := (wd_X6_pay cyI cyJ cyZ a_H a_H_sets a_H_papers a_H_worths a_this a_upper v_H_count q2.1 q1.1 q1.2 v_H_papers v_H_sets q2.2)) (As := [.int q1.2]) (rest := []) C (c_X1_widen_X6 l D cyI cyJ cyZ a_this a_upper v_lower q1.1 q1.2 v_upper q1.2 q2 hq2) cw55 hP hD hS [1, 4] [0, 2, 3] [0, 3, 1, 2, 4] rfl rfl rfl (by decide) 0 (ci := 5) rfl rfl rfl rfl rfl hl.1 (Nat.le_of_ble_eq_true rfl) dX6_pay_11 ⟨Nat.zero_le _, Nat.zero_le _⟩ (fun H locs hP hD hS => ?_)
  refine lv_iconst (v := (0 : Int32)) hx hb dX6_pay_14 (by decide) ?_
  refine lv_istore_n (lv' := [(3, .int (0 : Int32)), (0, .ref a_this), (1, .ref a_H), (2, .int x2)]) hx hb dX6_pay_15 rfl hl (by decide) rfl (fun ls hl => ?_)
  obtain ⟨q8, hq8, hf⟩ := ob_bind hf
  refine wl_X6_pay_16 C FU (0 : Int32) q2.2 _ _ _ _ hq8 (fun H locs ls hP hD hS hl => ?_) hP hD hS (lv_sub hl [1, 2, 3, 0] rfl)
  obtain rfl := Option.some.inj hf
  exact hret _ _ _ _ dX6_pay_60 hP hD hS
abbrev rm_X1_commonDivisor : Room := { frames := 0, cells := 0, slots := 0, locals := 0 }
abbrev wd_X1_commonDivisor (cyI cyJ cyZ : ClassId) : va_W := []
def lp_X1_commonDivisor_3 : Nat → Int64 → Int64 → Int32 → Option (Int64)
  | 0, _, _, _ => none
  | n + 1, y0, y2, y4 => (if (100 : Int32) ≤ y4 then some y0 else (if (lg_cmp y2 (0 : Int64)) = 0 then some y0 else (if y2 = 0 then none else lp_X1_commonDivisor_3 n y2 (y0 - y0 / y2 * y2) (y4 + (1 : Int32)))))
def f_X1_commonDivisor (x0 : Int64) (x2 : Int64) : Option (Int64) := (lp_X1_commonDivisor_3 FU x0 x2 (0 : Int32)).bind (fun q4 => some q4)
set_option maxHeartbeats 4000000 in
set_option maxRecDepth 100000 in
theorem wl_X1_commonDivisor_3 {p : Program} {l : Launch} {e : Env} {s : State} {m : MethodId} {args : Array Value} {below : List Frame} {meth : Method} {c : Code} {A : Nat → Prop} {Q : State → Prop} {D : va_G} {cyI cyJ cyZ : ClassId} (C : kC p s m args c cX1_commonDivisor 7 RX1 wsX1_commonDivisor D (kTy cyI cyJ cyZ) A) :
    ∀ (n : Nat) (y0 : Int64) (y2 : Int64) (y4 : Int32) (q : Int64) (H : Heap) (locs : List Loc) (ls : Array Slot), lp_X1_commonDivisor_3 n y0 y2 y4 = some q → (∀ (H : Heap) (locs : List Loc) (ls : Array Slot), va_P D vwCl (wd_X1_commonDivisor cyI cyJ cyZ) H → va_D A (wd_X1_commonDivisor cyI cyJ cyZ) → va_S A s.heap H locs → lv_has ls 7 [(0, .long q)] → W p l e rm_X1_commonDivisor s m args below meth c H locs 0 0 Q (F0 m 32 ls [])) → va_P D vwCl (wd_X1_commonDivisor cyI cyJ cyZ) H → va_D A (wd_X1_commonDivisor cyI cyJ cyZ) → va_S A s.heap H locs → lv_has ls 7 [(0, .long y0), (2, .long y2), (4, .int y4)] → W p l e rm_X1_commonDivisor s m args below meth c H locs 0 0 Q (F0 m 3 ls []) := by
  obtain ⟨hx, hb, hml, hown, hts, hK, hA⟩ := id C
  intro n
  induction n with
  | zero =>
    intro y0 y2 y4 q H locs ls hf K hP hD hS hl
    rw [lp_X1_commonDivisor_3] at hf
    cases hf
  | succ n ih =>
    intro y0 y2 y4 q H locs ls hf K hP hD hS hl
    rw [lp_X1_commonDivisor_3] at hf
    refine lv_iload hx hb dX1_commonDivisor_3 (lv_at hl 2 rfl) ?_
    refine lv_bipush (v := (100 : Int32)) hx hb dX1_commonDivisor_5 (by decide) ?_
    refine lv_icmp_ge (tgt := 32) hx hb dX1_commonDivisor_7 (by decide) (fun c1 => ?_) (fun c1 => ?_)
    · have hf := ob_pos c1 hf
      obtain rfl := Option.some.inj hf
      exact K _ _ _ hP hD hS (lv_sub hl [0] rfl)
    · have hf := ob_neg c1 hf
      refine lv_lload_n hx hb dX1_commonDivisor_10 rfl (lv_at hl 1 rfl) ?_
      refine lv_lconst (v := 0) hx hb dX1_commonDivisor_11 (by decide) ?_
      refine W.lcmp hx hb dX1_commonDivisor_12 ?_
      refine lv_if_eq (tgt := 32) hx hb dX1_commonDivisor_13 (by decide) (fun c2 => ?_) (fun c2 => ?_)
      · have hf := ob_pos c2 hf
        obtain rfl := Option.some.inj hf
        exact K _ _ _ hP hD hS (lv_sub hl [0] rfl)
      · have hf := ob_neg c2 hf
        refine lv_lload_n hx hb dX1_commonDivisor_16 rfl (lv_at hl 0 rfl) ?_
        refine lv_lload_n hx hb dX1_commonDivisor_17 rfl (lv_at hl 1 rfl) ?_
        obtain ⟨z3, hf⟩ := og_nz hf
        refine lv_lrem hx hb dX1_commonDivisor_18 z3 ?_
        refine lv_lstore (lv' := [(5, .long (y0 - y0 / y2 * y2)), (0, .long y0), (2, .long y2), (4, .int y4)]) hx hb dX1_commonDivisor_19 hl (by decide) rfl (fun ls hl => ?_)
        refine lv_lload_n hx hb dX1_commonDivisor_21 rfl (lv_at hl 2 rfl) ?_
        refine lv_lstore_n (lv' := [(0, .long y2), (5, .long (y0 - y0 / y2 * y2)), (2, .long y2), (4, .int y4)]) hx hb dX1_commonDivisor_22 rfl hl (by decide) rfl (fun ls hl => ?_)
        refine lv_lload hx hb dX1_commonDivisor_23 (lv_at hl 1 rfl) ?_
        refine lv_lstore_n (lv' := [(2, .long (y0 - y0 / y2 * y2)), (0, .long y2), (5, .long (y0 - y0 / y2 * y2)), (4, .int y4)]) hx hb dX1_commonDivisor_25 rfl hl (by decide) rfl (fun ls hl => ?_)
        refine lv_iinc (v := (y4 + (1 : Int32))) (lv' := [(4, .int (y4 + (1 : Int32))), (2, .long (y0 - y0 / y2 * y2)), (0, .long y2), (5, .long (y0 - y0 / y2 * y2))]) hx hb dX1_commonDivisor_26 hl (k := 3) rfl rfl (by decide) rfl (fun ls hl => ?_)
        refine lv_goto (tgt := 3) hx hb dX1_commonDivisor_29 (by decide) ?_
        exact ih y2 (y0 - y0 / y2 * y2) (y4 + (1 : Int32)) _ _ _ _ hf K hP hD hS (lv_sub hl [2, 1, 0] rfl)
set_option maxHeartbeats 4000000 in
set_option maxRecDepth 100000 in
theorem c_X1_commonDivisor (l : Launch) (D : va_G) (cyI cyJ cyZ : ClassId) (x0 : Int64) (x2 : Int64) (q : Int64) (hf : f_X1_commonDivisor x0 x2 = some q) : kMl l yX1_commonDivisor wsX1_commonDivisor rm_X1_commonDivisor D (kTy cyI cyJ cyZ) [.long x0, .long x2] (wd_X1_commonDivisor cyI cyJ cyZ) (wd_X1_commonDivisor cyI cyJ cyZ) q := by
  refine kMl_of (cc := cX1_commonDivisor) (nL := 7) (own := RX1) (by decide) rfl rfl (Nat.le_of_ble_eq_true rfl) ?_
  intro p e s m below meth c A Q ls C hret hP hD hS hl
  have hl : lv_has ls 7 [(0, .long x0), (2, .long x2)] := hl
  unfold f_X1_commonDivisor at hf
  obtain ⟨hx, hb, hml, hown, hts, hK, hA⟩ := id C
  refine lv_iconst (v := (0 : Int32)) hx hb dX1_commonDivisor_0 (by decide) ?_
  refine lv_istore (lv' := [(4, .int (0 : Int32)), (0, .long x0), (2, .long x2)]) hx hb dX1_commonDivisor_1 hl (by decide) rfl (fun ls hl => ?_)
  obtain ⟨q4, hq4, hf⟩ := ob_bind hf
  refine wl_X1_commonDivisor_3 C FU x0 x2 (0 : Int32) _ _ _ _ hq4 (fun H locs ls hP hD hS hl => ?_) hP hD hS (lv_sub hl [1, 2, 0] rfl)
  refine lv_lload_n hx hb dX1_commonDivisor_32 rfl (lv_at hl 0 rfl) ?_
  obtain rfl := Option.some.inj hf
  exact hret _ _ _ _ dX1_commonDivisor_33 hP hD hS
abbrev rm_X1_lowest_X5 : Room := { frames := 1, cells := 0, slots := 0, locals := 26 }
abbrev wd_X1_lowest_X5 (cyI cyJ cyZ : ClassId) (a_this a_upper : Nat) (v_lower : Int64) (v_upper : Nat → Int64) : va_W := [(a_this, .inr (4, [.ref a_upper, .long v_lower])), (a_upper, .inl (cyJ, 7, .inr (.inl v_upper)))]
def f_X1_lowest_X5 (x1 : Int32) (x2 : Int32) (v_lower : Int64) (v_upper : Nat → Int64) : Option (Int64) := (if x1 < 0 then some (0 : Int64) else (if x1 ≤ (6 : Int32) then (if x2 = 0 then (if ob_in x1 7 = true then (if ob_in x1 7 = true then (f_X1_commonDivisor v_lower (v_upper x1.toNatClampNeg)).bind (fun q10 => (if (lg_cmp q10 (0 : Int64)) = 0 then some (v_upper x1.toNatClampNeg) else (if q10 = 0 then none else some ((v_upper x1.toNatClampNeg) / q10)))) else none) else none) else (if ob_in x1 7 = true then (f_X1_commonDivisor v_lower (v_upper x1.toNatClampNeg)).bind (fun q5 => (if (lg_cmp q5 (0 : Int64)) = 0 then some v_lower else (if q5 = 0 then none else some (v_lower / q5)))) else none)) else some (0 : Int64)))
set_option maxHeartbeats 4000000 in
set_option maxRecDepth 100000 in
theorem c_X1_lowest_X5 (l : Launch) (D : va_G) (cyI cyJ cyZ : ClassId) (a_this a_upper : Nat) (v_lower : Int64) (v_upper : Nat → Int64) (x1 : Int32) (x2 : Int32) (q : Int64) (hf : f_X1_lowest_X5 x1 x2 v_lower v_upper = some q) : kMl l yX1_lowest wsX1_lowest rm_X1_lowest_X5 D (kTy cyI cyJ cyZ) [.ref a_this, .int x1, .int x2] (wd_X1_lowest_X5 cyI cyJ cyZ a_this a_upper v_lower v_upper) (wd_X1_lowest_X5 cyI cyJ cyZ a_this a_upper v_lower v_upper) q := by
  refine kMl_of (cc := cX1_lowest) (nL := 7) (own := RX1) (by decide) rfl rfl (Nat.le_of_ble_eq_true rfl) ?_
  intro p e s m below meth c A Q ls C hret hP hD hS hl
  have hl : lv_has ls 7 [(0, .ref a_this), (1, .int x1), (2, .int x2)] := hl
  unfold f_X1_lowest_X5 at hf
  obtain ⟨hx, hb, hml, hown, hts, hK, hA⟩ := id C
  have iX5 : ∀ w ∈ u_ws RX5 TX5 2, w ∈ wsX1_lowest := by decide +kernel
  have fl9 := hts (.fieldLink RX1 9 "FairSeats$Fractions" "upper" "[J") (by decide +kernel)
  have fl15 := hts (.fieldLink RX1 15 "FairSeats$Fractions" "lower" "J") (by decide +kernel)
  have cw33 := va_cwS (R := rm_X1_lowest_X5) (rm := rm_X1_commonDivisor) 2 hts gX1_lowest_X1_commonDivisor rfl rfl rfl (by decide +kernel) ⟨Nat.le_of_ble_eq_true rfl, Nat.le_of_ble_eq_true rfl⟩
  refine lv_iload_n hx hb dX1_lowest_0 rfl (lv_at hl 1 rfl) ?_
  refine lv_if_lt (tgt := 10) hx hb dX1_lowest_1 (by decide) (fun c1 => ?_) (fun c1 => ?_)
  · have hf := ob_pos c1 hf
    refine lv_lconst (v := 0) hx hb dX1_lowest_10 (by decide) ?_
    obtain rfl := Option.some.inj hf
    exact hret _ _ _ _ dX1_lowest_11 hP hD hS
  · have hf := ob_neg c1 hf
    refine lv_iload_n hx hb dX1_lowest_4 rfl (lv_at hl 1 rfl) ?_
    refine lv_bipush (v := (6 : Int32)) hx hb dX1_lowest_5 (by decide) ?_
    refine lv_icmp_le (tgt := 12) hx hb dX1_lowest_7 (by decide) (fun c2 => ?_) (fun c2 => ?_)
    · have hf := ob_pos c2 hf
      refine lv_iload_n hx hb dX1_lowest_12 rfl (lv_at hl 2 rfl) ?_
      refine lv_if_ne (tgt := 25) hx hb dX1_lowest_13 (by decide) (fun c3 => ?_) (fun c3 => ?_)
      · have hf := ob_neg c3 hf
        refine lv_aload_n hx hb dX1_lowest_25 rfl (lv_at hl 0 rfl) ?_
        refine va_get (D := D) (ci := 4) (v := .long v_lower) (C := RX5) (T := TX5) (N := 2) hx hb hts iX5 hown hK hP 0 rfl rfl 1 (by decide) fl15 (fun _ h9 => h9) rfl dX1_lowest_26 ?_
        refine lv_lstore_n (lv' := [(3, .long v_lower), (0, .ref a_this), (1, .int x1), (2, .int x2)]) hx hb dX1_lowest_29 rfl hl (by decide) rfl (fun ls hl => ?_)
        refine lv_aload_n hx hb dX1_lowest_30 rfl (lv_at hl 1 rfl) ?_
        refine va_get (D := D) (ci := 4) (v := .long v_lower) (C := RX5) (T := TX5) (N := 2) hx hb hts iX5 hown hK hP 0 rfl rfl 1 (by decide) fl15 (fun _ h9 => h9) rfl dX1_lowest_31 ?_
        refine lv_aload_n hx hb dX1_lowest_34 rfl (lv_at hl 1 rfl) ?_
        refine va_get (D := D) (ci := 4) (v := .ref a_upper) (C := RX5) (T := TX5) (N := 2) hx hb hts iX5 hown hK hP 0 rfl rfl 0 (by decide) fl9 (fun _ h9 => h9) rfl dX1_lowest_35 ?_
        refine lv_iload_n hx hb dX1_lowest_38 rfl (lv_at hl 2 rfl) ?_
        obtain ⟨h4, hf⟩ := og_in hf
        refine va_lald hx hb hK hP 1 1 rfl rfl h4 dX1_lowest_39 ?_
        obtain ⟨q5, hq5, hf⟩ := ob_bind hf
        refine k_Sl (wo := (wd_X1_lowest_X5 cyI cyJ cyZ a_this a_upper v_lower v_upper)) (As := [.long v_lower, .long (v_upper x1.toNatClampNeg)]) (rest := []) C (c_X1_commonDivisor l D cyI cyJ cyZ   v_lower (v_upper x1.toNatClampNeg) q5 hq5) cw33 hP hD hS [] [0, 1] [0, 1] rfl rfl rfl (by decide) rfl rfl hl.1 (Nat.le_of_ble_eq_true rfl) dX1_lowest_40 ⟨Nat.zero_le _, Nat.zero_le _⟩ (fun H locs hP hD hS => ?_)
        refine lv_lstore (lv' := [(5, .long q5), (3, .long v_lower), (0, .ref a_this), (1, .int x1), (2, .int x2)]) hx hb dX1_lowest_43 hl (by decide) rfl (fun ls hl => ?_)
        refine lv_lload hx hb dX1_lowest_45 (lv_at hl 0 rfl) ?_
        refine lv_lconst (v := 0) hx hb dX1_lowest_47 (by decide) ?_
        refine W.lcmp hx hb dX1_lowest_48 ?_
        refine lv_if_ne (tgt := 56) hx hb dX1_lowest_49 (by decide) (fun c6 => ?_) (fun c6 => ?_)
        · have hf := ob_neg c6 hf
          refine lv_lload_n hx hb dX1_lowest_56 rfl (lv_at hl 1 rfl) ?_
          refine lv_lload hx hb dX1_lowest_57 (lv_at hl 0 rfl) ?_
          obtain ⟨z7, hf⟩ := og_nz hf
          refine lv_ldiv hx hb dX1_lowest_59 z7 ?_
          obtain rfl := Option.some.inj hf
          exact hret _ _ _ _ dX1_lowest_60 hP hD hS
        · have hf := ob_pos c6 hf
          refine lv_lload_n hx hb dX1_lowest_52 rfl (lv_at hl 1 rfl) ?_
          refine lv_goto (tgt := 60) hx hb dX1_lowest_53 (by decide) ?_
          obtain rfl := Option.some.inj hf
          exact hret _ _ _ _ dX1_lowest_60 hP hD hS
      · have hf := ob_pos c3 hf
        refine lv_aload_n hx hb dX1_lowest_16 rfl (lv_at hl 0 rfl) ?_
        refine va_get (D := D) (ci := 4) (v := .ref a_upper) (C := RX5) (T := TX5) (N := 2) hx hb hts iX5 hown hK hP 0 rfl rfl 0 (by decide) fl9 (fun _ h9 => h9) rfl dX1_lowest_17 ?_
        refine lv_iload_n hx hb dX1_lowest_20 rfl (lv_at hl 1 rfl) ?_
        obtain ⟨h8, hf⟩ := og_in hf
        refine va_lald hx hb hK hP 1 1 rfl rfl h8 dX1_lowest_21 ?_
        refine lv_goto (tgt := 29) hx hb dX1_lowest_22 (by decide) ?_
        refine lv_lstore_n (lv' := [(3, .long (v_upper x1.toNatClampNeg)), (0, .ref a_this), (1, .int x1), (2, .int x2)]) hx hb dX1_lowest_29 rfl hl (by decide) rfl (fun ls hl => ?_)
        refine lv_aload_n hx hb dX1_lowest_30 rfl (lv_at hl 1 rfl) ?_
        refine va_get (D := D) (ci := 4) (v := .long v_lower) (C := RX5) (T := TX5) (N := 2) hx hb hts iX5 hown hK hP 0 rfl rfl 1 (by decide) fl15 (fun _ h9 => h9) rfl dX1_lowest_31 ?_
        refine lv_aload_n hx hb dX1_lowest_34 rfl (lv_at hl 1 rfl) ?_
        refine va_get (D := D) (ci := 4) (v := .ref a_upper) (C := RX5) (T := TX5) (N := 2) hx hb hts iX5 hown hK hP 0 rfl rfl 0 (by decide) fl9 (fun _ h9 => h9) rfl dX1_lowest_35 ?_
        refine lv_iload_n hx hb dX1_lowest_38 rfl (lv_at hl 2 rfl) ?_
        obtain ⟨h9, hf⟩ := og_in hf
        refine va_lald hx hb hK hP 1 1 rfl rfl h9 dX1_lowest_39 ?_
        obtain ⟨q10, hq10, hf⟩ := ob_bind hf
        refine k_Sl (wo := (wd_X1_lowest_X5 cyI cyJ cyZ a_this a_upper v_lower v_upper)) (As := [.long v_lower, .long (v_upper x1.toNatClampNeg)]) (rest := []) C (c_X1_commonDivisor l D cyI cyJ cyZ   v_lower (v_upper x1.toNatClampNeg) q10 hq10) cw33 hP hD hS [] [0, 1] [0, 1] rfl rfl rfl (by decide) rfl rfl hl.1 (Nat.le_of_ble_eq_true rfl) dX1_lowest_40 ⟨Nat.zero_le _, Nat.zero_le _⟩ (fun H locs hP hD hS => ?_)
        refine lv_lstore (lv' := [(5, .long q10), (3, .long (v_upper x1.toNatClampNeg)), (0, .ref a_this), (1, .int x1), (2, .int x2)]) hx hb dX1_lowest_43 hl (by decide) rfl (fun ls hl => ?_)
        refine lv_lload hx hb dX1_lowest_45 (lv_at hl 0 rfl) ?_
        refine lv_lconst (v := 0) hx hb dX1_lowest_47 (by decide) ?_
        refine W.lcmp hx hb dX1_lowest_48 ?_
        refine lv_if_ne (tgt := 56) hx hb dX1_lowest_49 (by decide) (fun c11 => ?_) (fun c11 => ?_)
        · have hf := ob_neg c11 hf
          refine lv_lload_n hx hb dX1_lowest_56 rfl (lv_at hl 1 rfl) ?_
          refine lv_lload hx hb dX1_lowest_57 (lv_at hl 0 rfl) ?_
          obtain ⟨z12, hf⟩ := og_nz hf
          refine lv_ldiv hx hb dX1_lowest_59 z12 ?_
          obtain rfl := Option.some.inj hf
          exact hret _ _ _ _ dX1_lowest_60 hP hD hS
        · have hf := ob_pos c11 hf
          refine lv_lload_n hx hb dX1_lowest_52 rfl (lv_at hl 1 rfl) ?_
          refine lv_goto (tgt := 60) hx hb dX1_lowest_53 (by decide) ?_
          obtain rfl := Option.some.inj hf
          exact hret _ _ _ _ dX1_lowest_60 hP hD hS
    · have hf := ob_neg c2 hf
      refine lv_lconst (v := 0) hx hb dX1_lowest_10 (by decide) ?_
      obtain rfl := Option.some.inj hf
      exact hret _ _ _ _ dX1_lowest_11 hP hD hS
abbrev rm_X1_lowest_X6 : Room := { frames := 1, cells := 0, slots := 0, locals := 26 }
abbrev wd_X1_lowest_X6 (cyI cyJ cyZ : ClassId) (a_this a_upper : Nat) (v_lower : Int64) (v_rest : Int64) (v_payers : Int32) (v_upper : Nat → Int64) : va_W := [(a_this, .inr (5, [.ref a_upper, .long v_lower, .long v_rest, .int v_payers])), (a_upper, .inl (cyJ, 7, .inr (.inl v_upper)))]
def f_X1_lowest_X6 (x1 : Int32) (x2 : Int32) (v_lower : Int64) (v_upper : Nat → Int64) : Option (Int64) := (if x1 < 0 then some (0 : Int64) else (if x1 ≤ (6 : Int32) then (if x2 = 0 then (if ob_in x1 7 = true then (if ob_in x1 7 = true then (f_X1_commonDivisor v_lower (v_upper x1.toNatClampNeg)).bind (fun q10 => (if (lg_cmp q10 (0 : Int64)) = 0 then some (v_upper x1.toNatClampNeg) else (if q10 = 0 then none else some ((v_upper x1.toNatClampNeg) / q10)))) else none) else none) else (if ob_in x1 7 = true then (f_X1_commonDivisor v_lower (v_upper x1.toNatClampNeg)).bind (fun q5 => (if (lg_cmp q5 (0 : Int64)) = 0 then some v_lower else (if q5 = 0 then none else some (v_lower / q5)))) else none)) else some (0 : Int64)))
set_option maxHeartbeats 4000000 in
set_option maxRecDepth 100000 in
theorem c_X1_lowest_X6 (l : Launch) (D : va_G) (cyI cyJ cyZ : ClassId) (a_this a_upper : Nat) (v_lower : Int64) (v_rest : Int64) (v_payers : Int32) (v_upper : Nat → Int64) (x1 : Int32) (x2 : Int32) (q : Int64) (hf : f_X1_lowest_X6 x1 x2 v_lower v_upper = some q) : kMl l yX1_lowest wsX1_lowest rm_X1_lowest_X6 D (kTy cyI cyJ cyZ) [.ref a_this, .int x1, .int x2] (wd_X1_lowest_X6 cyI cyJ cyZ a_this a_upper v_lower v_rest v_payers v_upper) (wd_X1_lowest_X6 cyI cyJ cyZ a_this a_upper v_lower v_rest v_payers v_upper) q := by
  refine kMl_of (cc := cX1_lowest) (nL := 7) (own := RX1) (by decide) rfl rfl (Nat.le_of_ble_eq_true rfl) ?_
  intro p e s m below meth c A Q ls C hret hP hD hS hl
  have hl : lv_has ls 7 [(0, .ref a_this), (1, .int x1), (2, .int x2)] := hl
  unfold f_X1_lowest_X6 at hf
  obtain ⟨hx, hb, hml, hown, hts, hK, hA⟩ := id C
  have iX6 : ∀ w ∈ u_ws RX6 TX6 4, w ∈ wsX1_lowest := by decide +kernel
  have fl9 := hts (.fieldLink RX1 9 "FairSeats$Fractions" "upper" "[J") (by decide +kernel)
  have fl15 := hts (.fieldLink RX1 15 "FairSeats$Fractions" "lower" "J") (by decide +kernel)
  have cw33 := va_cwS (R := rm_X1_lowest_X6) (rm := rm_X1_commonDivisor) 2 hts gX1_lowest_X1_commonDivisor rfl rfl rfl (by decide +kernel) ⟨Nat.le_of_ble_eq_true rfl, Nat.le_of_ble_eq_true rfl⟩
  refine lv_iload_n hx hb dX1_lowest_0 rfl (lv_at hl 1 rfl) ?_
  refine lv_if_lt (tgt := 10) hx hb dX1_lowest_1 (by decide) (fun c1 => ?_) (fun c1 => ?_)
  · have hf := ob_pos c1 hf
    refine lv_lconst (v := 0) hx hb dX1_lowest_10 (by decide) ?_
    obtain rfl := Option.some.inj hf
    exact hret _ _ _ _ dX1_lowest_11 hP hD hS
  · have hf := ob_neg c1 hf
    refine lv_iload_n hx hb dX1_lowest_4 rfl (lv_at hl 1 rfl) ?_
    refine lv_bipush (v := (6 : Int32)) hx hb dX1_lowest_5 (by decide) ?_
    refine lv_icmp_le (tgt := 12) hx hb dX1_lowest_7 (by decide) (fun c2 => ?_) (fun c2 => ?_)
    · have hf := ob_pos c2 hf
      refine lv_iload_n hx hb dX1_lowest_12 rfl (lv_at hl 2 rfl) ?_
      refine lv_if_ne (tgt := 25) hx hb dX1_lowest_13 (by decide) (fun c3 => ?_) (fun c3 => ?_)
      · have hf := ob_neg c3 hf
        refine lv_aload_n hx hb dX1_lowest_25 rfl (lv_at hl 0 rfl) ?_
        refine va_get (D := D) (ci := 5) (v := .long v_lower) (C := RX6) (T := TX6) (N := 4) hx hb hts iX6 hown hK hP 0 rfl rfl 1 (by decide) fl15 (fun _ h9 => h9) rfl dX1_lowest_26 ?_
        refine lv_lstore_n (lv' := [(3, .long v_lower), (0, .ref a_this), (1, .int x1), (2, .int x2)]) hx hb dX1_lowest_29 rfl hl (by decide) rfl (fun ls hl => ?_)
        refine lv_aload_n hx hb dX1_lowest_30 rfl (lv_at hl 1 rfl) ?_
        refine va_get (D := D) (ci := 5) (v := .long v_lower) (C := RX6) (T := TX6) (N := 4) hx hb hts iX6 hown hK hP 0 rfl rfl 1 (by decide) fl15 (fun _ h9 => h9) rfl dX1_lowest_31 ?_
        refine lv_aload_n hx hb dX1_lowest_34 rfl (lv_at hl 1 rfl) ?_
        refine va_get (D := D) (ci := 5) (v := .ref a_upper) (C := RX6) (T := TX6) (N := 4) hx hb hts iX6 hown hK hP 0 rfl rfl 0 (by decide) fl9 (fun _ h9 => h9) rfl dX1_lowest_35 ?_
        refine lv_iload_n hx hb dX1_lowest_38 rfl (lv_at hl 2 rfl) ?_
        obtain ⟨h4, hf⟩ := og_in hf
        refine va_lald hx hb hK hP 1 1 rfl rfl h4 dX1_lowest_39 ?_
        obtain ⟨q5, hq5, hf⟩ := ob_bind hf
        refine k_Sl (wo := (wd_X1_lowest_X6 cyI cyJ cyZ a_this a_upper v_lower v_rest v_payers v_upper)) (As := [.long v_lower, .long (v_upper x1.toNatClampNeg)]) (rest := []) C (c_X1_commonDivisor l D cyI cyJ cyZ   v_lower (v_upper x1.toNatClampNeg) q5 hq5) cw33 hP hD hS [] [0, 1] [0, 1] rfl rfl rfl (by decide) rfl rfl hl.1 (Nat.le_of_ble_eq_true rfl) dX1_lowest_40 ⟨Nat.zero_le _, Nat.zero_le _⟩ (fun H locs hP hD hS => ?_)
        refine lv_lstore (lv' := [(5, .long q5), (3, .long v_lower), (0, .ref a_this), (1, .int x1), (2, .int x2)]) hx hb dX1_lowest_43 hl (by decide) rfl (fun ls hl => ?_)
        refine lv_lload hx hb dX1_lowest_45 (lv_at hl 0 rfl) ?_
        refine lv_lconst (v := 0) hx hb dX1_lowest_47 (by decide) ?_
        refine W.lcmp hx hb dX1_lowest_48 ?_
        refine lv_if_ne (tgt := 56) hx hb dX1_lowest_49 (by decide) (fun c6 => ?_) (fun c6 => ?_)
        · have hf := ob_neg c6 hf
          refine lv_lload_n hx hb dX1_lowest_56 rfl (lv_at hl 1 rfl) ?_
          refine lv_lload hx hb dX1_lowest_57 (lv_at hl 0 rfl) ?_
          obtain ⟨z7, hf⟩ := og_nz hf
          refine lv_ldiv hx hb dX1_lowest_59 z7 ?_
          obtain rfl := Option.some.inj hf
          exact hret _ _ _ _ dX1_lowest_60 hP hD hS
        · have hf := ob_pos c6 hf
          refine lv_lload_n hx hb dX1_lowest_52 rfl (lv_at hl 1 rfl) ?_
          refine lv_goto (tgt := 60) hx hb dX1_lowest_53 (by decide) ?_
          obtain rfl := Option.some.inj hf
          exact hret _ _ _ _ dX1_lowest_60 hP hD hS
      · have hf := ob_pos c3 hf
        refine lv_aload_n hx hb dX1_lowest_16 rfl (lv_at hl 0 rfl) ?_
        refine va_get (D := D) (ci := 5) (v := .ref a_upper) (C := RX6) (T := TX6) (N := 4) hx hb hts iX6 hown hK hP 0 rfl rfl 0 (by decide) fl9 (fun _ h9 => h9) rfl dX1_lowest_17 ?_
        refine lv_iload_n hx hb dX1_lowest_20 rfl (lv_at hl 1 rfl) ?_
        obtain ⟨h8, hf⟩ := og_in hf
        refine va_lald hx hb hK hP 1 1 rfl rfl h8 dX1_lowest_21 ?_
        refine lv_goto (tgt := 29) hx hb dX1_lowest_22 (by decide) ?_
        refine lv_lstore_n (lv' := [(3, .long (v_upper x1.toNatClampNeg)), (0, .ref a_this), (1, .int x1), (2, .int x2)]) hx hb dX1_lowest_29 rfl hl (by decide) rfl (fun ls hl => ?_)
        refine lv_aload_n hx hb dX1_lowest_30 rfl (lv_at hl 1 rfl) ?_
        refine va_get (D := D) (ci := 5) (v := .long v_lower) (C := RX6) (T := TX6) (N := 4) hx hb hts iX6 hown hK hP 0 rfl rfl 1 (by decide) fl15 (fun _ h9 => h9) rfl dX1_lowest_31 ?_
        refine lv_aload_n hx hb dX1_lowest_34 rfl (lv_at hl 1 rfl) ?_
        refine va_get (D := D) (ci := 5) (v := .ref a_upper) (C := RX6) (T := TX6) (N := 4) hx hb hts iX6 hown hK hP 0 rfl rfl 0 (by decide) fl9 (fun _ h9 => h9) rfl dX1_lowest_35 ?_
        refine lv_iload_n hx hb dX1_lowest_38 rfl (lv_at hl 2 rfl) ?_
        obtain ⟨h9, hf⟩ := og_in hf
        refine va_lald hx hb hK hP 1 1 rfl rfl h9 dX1_lowest_39 ?_
        obtain ⟨q10, hq10, hf⟩ := ob_bind hf
        refine k_Sl (wo := (wd_X1_lowest_X6 cyI cyJ cyZ a_this a_upper v_lower v_rest v_payers v_upper)) (As := [.long v_lower, .long (v_upper x1.toNatClampNeg)]) (rest := []) C (c_X1_commonDivisor l D cyI cyJ cyZ   v_lower (v_upper x1.toNatClampNeg) q10 hq10) cw33 hP hD hS [] [0, 1] [0, 1] rfl rfl rfl (by decide) rfl rfl hl.1 (Nat.le_of_ble_eq_true rfl) dX1_lowest_40 ⟨Nat.zero_le _, Nat.zero_le _⟩ (fun H locs hP hD hS => ?_)
        refine lv_lstore (lv' := [(5, .long q10), (3, .long (v_upper x1.toNatClampNeg)), (0, .ref a_this), (1, .int x1), (2, .int x2)]) hx hb dX1_lowest_43 hl (by decide) rfl (fun ls hl => ?_)
        refine lv_lload hx hb dX1_lowest_45 (lv_at hl 0 rfl) ?_
        refine lv_lconst (v := 0) hx hb dX1_lowest_47 (by decide) ?_
        refine W.lcmp hx hb dX1_lowest_48 ?_
        refine lv_if_ne (tgt := 56) hx hb dX1_lowest_49 (by decide) (fun c11 => ?_) (fun c11 => ?_)
        · have hf := ob_neg c11 hf
          refine lv_lload_n hx hb dX1_lowest_56 rfl (lv_at hl 1 rfl) ?_
          refine lv_lload hx hb dX1_lowest_57 (lv_at hl 0 rfl) ?_
          obtain ⟨z12, hf⟩ := og_nz hf
          refine lv_ldiv hx hb dX1_lowest_59 z12 ?_
          obtain rfl := Option.some.inj hf
          exact hret _ _ _ _ dX1_lowest_60 hP hD hS
        · have hf := ob_pos c11 hf
          refine lv_lload_n hx hb dX1_lowest_52 rfl (lv_at hl 1 rfl) ?_
          refine lv_goto (tgt := 60) hx hb dX1_lowest_53 (by decide) ?_
          obtain rfl := Option.some.inj hf
          exact hret _ _ _ _ dX1_lowest_60 hP hD hS
    · have hf := ob_neg c2 hf
      refine lv_lconst (v := 0) hx hb dX1_lowest_10 (by decide) ?_
      obtain rfl := Option.some.inj hf
      exact hret _ _ _ _ dX1_lowest_11 hP hD hS
