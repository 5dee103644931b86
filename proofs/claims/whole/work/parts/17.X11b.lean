abbrev rm_X11_hall : Room := { frames := 2, cells := 0, slots := 0, locals := 48 }
abbrev wd_X11_hall (cyI cyJ cyZ : ClassId) (a_this a_sets a_papers a_worths a_sign a_hallSign a_chosen a_upper a_lower : Nat) (v_heaps : Int32) (v_seats : Int32) (v_signs : Int32) (v_hallMany : Int32) (v_chosenSet : Int32) (v_paidSeats : Int32) (v_rhoUp : Int64) (v_rhoBy : Int64) (v_breachGroup : Int32) (v_hallSign : Nat → Int32) (v_sign : Nat → Int32) : va_W := [(a_this, .inr (10, [.int v_heaps, .ref a_sets, .ref a_papers, .int v_seats, .ref a_worths, .int v_signs, .ref a_sign, .int v_hallMany, .ref a_hallSign, .ref a_chosen, .int v_chosenSet, .int v_paidSeats, .ref a_upper, .ref a_lower, .long v_rhoUp, .long v_rhoBy, .int v_breachGroup])), (a_hallSign, .inl (cyI, 40, .inl v_hallSign)), (a_sign, .inl (cyI, 40, .inl v_sign))]
def lp_X11_hall_20 (v_signs : Int32) (v_sign : Nat → Int32) : Nat → Int32 → (Nat → Int32) → Option ((Nat → Int32))
  | 0, _, _ => none
  | n + 1, y1, v_hallSign => (if v_signs ≤ y1 then some v_hallSign else (if ob_in y1 40 = true then (if ob_in y1 40 = true then lp_X11_hall_20 v_signs v_sign n (y1 + (1 : Int32)) (upd v_hallSign y1.toNatClampNeg (v_sign y1.toNatClampNeg)) else none) else none))
def f_X11_hall (v_signs : Int32) (v_hallMany : Int32) (v_hallSign : Nat → Int32) (v_sign : Nat → Int32) : Option (Int32 × Int32 × Int32 × (Nat → Int32)) := (f_X11_faultOf v_signs v_sign).bind (fun q1 => (if q1 < 0 then (lp_X11_hall_20 v_signs v_sign FU (0 : Int32) v_hallSign).bind (fun q6 => some ((1 : Int32), (0 : Int32), v_signs, q6)) else some ((-5 : Int32), v_signs, v_hallMany, v_hallSign)))
set_option maxHeartbeats 4000000 in
set_option maxRecDepth 100000 in
theorem wl_X11_hall_20 {p : Program} {l : Launch} {e : Env} {s : State} {m : MethodId} {args : Array Value} {below : List Frame} {meth : Method} {c : Code} {A : Nat → Prop} {Q : State → Prop} {D : va_G} {cyI cyJ cyZ : ClassId} {a_this a_sets a_papers a_worths a_sign a_hallSign a_chosen a_upper a_lower : Nat} {v_heaps : Int32} {v_seats : Int32} {v_signs : Int32} {v_hallMany : Int32} {v_chosenSet : Int32} {v_paidSeats : Int32} {v_rhoUp : Int64} {v_rhoBy : Int64} {v_breachGroup : Int32} {v_sign : Nat → Int32} (C : kC p s m args c cX11_hall 2 RX11 wsX11_hall D (kTy cyI cyJ cyZ) A) :
    ∀ (n : Nat) (y1 : Int32) (v_hallSign : Nat → Int32) (q : (Nat → Int32)) (H : Heap) (locs : List Loc) (ls : Array Slot), lp_X11_hall_20 v_signs v_sign n y1 v_hallSign = some q → (∀ (H : Heap) (locs : List Loc) (ls : Array Slot), va_P D vwCl (wd_X11_hall cyI cyJ cyZ a_this a_sets a_papers a_worths a_sign a_hallSign a_chosen a_upper a_lower v_heaps v_seats v_signs v_hallMany v_chosenSet v_paidSeats v_rhoUp v_rhoBy v_breachGroup q v_sign) H → va_D A (wd_X11_hall cyI cyJ cyZ a_this a_sets a_papers a_worths a_sign a_hallSign a_chosen a_upper a_lower v_heaps v_seats v_signs v_hallMany v_chosenSet v_paidSeats v_rhoUp v_rhoBy v_breachGroup q v_sign) → va_S A s.heap H locs → lv_has ls 2 [(0, .ref a_this)] → W p l e rm_X11_hall s m args below meth c H locs 0 0 Q (F0 m 46 ls [])) → va_P D vwCl (wd_X11_hall cyI cyJ cyZ a_this a_sets a_papers a_worths a_sign a_hallSign a_chosen a_upper a_lower v_heaps v_seats v_signs v_hallMany v_chosenSet v_paidSeats v_rhoUp v_rhoBy v_breachGroup v_hallSign v_sign) H → va_D A (wd_X11_hall cyI cyJ cyZ a_this a_sets a_papers a_worths a_sign a_hallSign a_chosen a_upper a_lower v_heaps v_seats v_signs v_hallMany v_chosenSet v_paidSeats v_rhoUp v_rhoBy v_breachGroup v_hallSign v_sign) → va_S A s.heap H locs → lv_has ls 2 [(0, .ref a_this), (1, .int y1)] → W p l e rm_X11_hall s m args below meth c H locs 0 0 Q (F0 m 20 ls []) := by
  obtain ⟨hx, hb, hml, hown, hts, hK, hA⟩ := id C
  have iX11 : ∀ w ∈ u_ws RX11 TX11 17, w ∈ wsX11_hall := by decide +kernel
  have fl23 := hts (.fieldLink RX11 23 "FairSeatsModel" "sign" "[I") (by decide +kernel)
  have fl26 := hts (.fieldLink RX11 26 "FairSeatsModel" "hallSign" "[I") (by decide +kernel)
  have fl50 := hts (.fieldLink RX11 50 "FairSeatsModel" "signs" "I") (by decide +kernel)
  intro n
  induction n with
  | zero =>
    intro y1 v_hallSign q H locs ls hf K hP hD hS hl
    rw [lp_X11_hall_20] at hf
    cases hf
  | succ n ih =>
    intro y1 v_hallSign q H locs ls hf K hP hD hS hl
    rw [lp_X11_hall_20] at hf
    refine lv_iload_n hx hb dX11_hall_20 rfl (lv_at hl 1 rfl) ?_
    refine lv_aload_n hx hb dX11_hall_21 rfl (lv_at hl 0 rfl) ?_
    refine va_get (D := D) (ci := 10) (v := .int v_signs) (C := RX11) (T := TX11) (N := 17) hx hb hts iX11 hown hK hP 0 rfl rfl 5 (by decide) fl50 (fun _ h9 => h9) rfl dX11_hall_22 ?_
    refine lv_icmp_ge (tgt := 46) hx hb dX11_hall_25 (by decide) (fun c3 => ?_) (fun c3 => ?_)
    · have hf := ob_pos c3 hf
      obtain rfl := Option.some.inj hf
      exact K _ _ _ hP hD hS (lv_sub hl [0] rfl)
    · have hf := ob_neg c3 hf
      refine lv_aload_n hx hb dX11_hall_28 rfl (lv_at hl 0 rfl) ?_
      refine va_get (D := D) (ci := 10) (v := .ref a_hallSign) (C := RX11) (T := TX11) (N := 17) hx hb hts iX11 hown hK hP 0 rfl rfl 8 (by decide) fl26 (fun _ h9 => h9) rfl dX11_hall_29 ?_
      refine lv_iload_n hx hb dX11_hall_32 rfl (lv_at hl 1 rfl) ?_
      refine lv_aload_n hx hb dX11_hall_33 rfl (lv_at hl 0 rfl) ?_
      refine va_get (D := D) (ci := 10) (v := .ref a_sign) (C := RX11) (T := TX11) (N := 17) hx hb hts iX11 hown hK hP 0 rfl rfl 6 (by decide) fl23 (fun _ h9 => h9) rfl dX11_hall_34 ?_
      refine lv_iload_n hx hb dX11_hall_37 rfl (lv_at hl 1 rfl) ?_
      obtain ⟨h4, hf⟩ := og_in hf
      refine va_iald hx hb hK hP 2 0 rfl rfl h4 dX11_hall_38 ?_
      obtain ⟨h5, hf⟩ := og_in hf
      refine va_iast hx hb hK hP hD hS 1 0 rfl rfl h5 dX11_hall_39 (fun H locs hP hD hS => ?_)
      have hP : va_P D vwCl (wd_X11_hall cyI cyJ cyZ a_this a_sets a_papers a_worths a_sign a_hallSign a_chosen a_upper a_lower v_heaps v_seats v_signs v_hallMany v_chosenSet v_paidSeats v_rhoUp v_rhoBy v_breachGroup (upd v_hallSign y1.toNatClampNeg (v_sign y1.toNatClampNeg)) v_sign) H := hP
      have hD : va_D A (wd_X11_hall cyI cyJ cyZ a_this a_sets a_papers a_worths a_sign a_hallSign a_chosen a_upper a_lower v_heaps v_seats v_signs v_hallMany v_chosenSet v_paidSeats v_rhoUp v_rhoBy v_breachGroup (upd v_hallSign y1.toNatClampNeg (v_sign y1.toNatClampNeg)) v_sign) := hD
      refine lv_iinc (v := (y1 + (1 : Int32))) (lv' := [(1, .int (y1 + (1 : Int32))), (0, .ref a_this)]) hx hb dX11_hall_40 hl (k := 1) rfl rfl (by decide) rfl (fun ls hl => ?_)
      refine lv_goto (tgt := 20) hx hb dX11_hall_43 (by decide) ?_
      exact ih (y1 + (1 : Int32)) (upd v_hallSign y1.toNatClampNeg (v_sign y1.toNatClampNeg)) _ _ _ _ hf K hP hD hS (lv_sub hl [1, 0] rfl)
set_option maxHeartbeats 4000000 in
set_option maxRecDepth 100000 in
theorem c_X11_hall (l : Launch) (D : va_G) (cyI cyJ cyZ : ClassId) (a_this a_sets a_papers a_worths a_sign a_hallSign a_chosen a_upper a_lower : Nat) (v_heaps : Int32) (v_seats : Int32) (v_signs : Int32) (v_hallMany : Int32) (v_chosenSet : Int32) (v_paidSeats : Int32) (v_rhoUp : Int64) (v_rhoBy : Int64) (v_breachGroup : Int32) (v_hallSign : Nat → Int32) (v_sign : Nat → Int32) (q : Int32 × Int32 × Int32 × (Nat → Int32)) (hf : f_X11_hall v_signs v_hallMany v_hallSign v_sign = some q) : kMi l yX11_hall wsX11_hall rm_X11_hall D (kTy cyI cyJ cyZ) [.ref a_this] (wd_X11_hall cyI cyJ cyZ a_this a_sets a_papers a_worths a_sign a_hallSign a_chosen a_upper a_lower v_heaps v_seats v_signs v_hallMany v_chosenSet v_paidSeats v_rhoUp v_rhoBy v_breachGroup v_hallSign v_sign) (wd_X11_hall cyI cyJ cyZ a_this a_sets a_papers a_worths a_sign a_hallSign a_chosen a_upper a_lower v_heaps v_seats q.2.1 q.2.2.1 v_chosenSet v_paidSeats v_rhoUp v_rhoBy v_breachGroup q.2.2.2 v_sign) q.1 := by
  refine kMi_of (cc := cX11_hall) (nL := 2) (own := RX11) (by decide) rfl rfl (Nat.le_of_ble_eq_true rfl) ?_
  intro p e s m below meth c A Q ls C hret hP hD hS hl
  have hl : lv_has ls 2 [(0, .ref a_this)] := hl
  unfold f_X11_hall at hf
  obtain ⟨hx, hb, hml, hown, hts, hK, hA⟩ := id C
  have iX11 : ∀ w ∈ u_ws RX11 TX11 17, w ∈ wsX11_hall := by decide +kernel
  have fl50 := hts (.fieldLink RX11 50 "FairSeatsModel" "signs" "I") (by decide +kernel)
  have fl57 := hts (.fieldLink RX11 57 "FairSeatsModel" "hallMany" "I") (by decide +kernel)
  have cw53 := cwV (R := rm_X11_hall) (rm := rm_X11_faultOf) 0 hts gX11_hall_X11_faultOf rfl rfl rfl (by decide +kernel) ⟨Nat.le_of_ble_eq_true rfl, Nat.le_of_ble_eq_true rfl⟩
  refine lv_aload_n hx hb dX11_hall_0 rfl (lv_at hl 0 rfl) ?_
  obtain ⟨q1, hq1, hf⟩ := ob_bind hf
  refine k_Vi (wo := (wd_X11_hall cyI cyJ cyZ a_this a_sets a_papers a_worths a_sign a_hallSign a_chosen a_upper a_lower v_heaps v_seats v_signs v_hallMany v_chosenSet v_paidSeats v_rhoUp v_rhoBy v_breachGroup v_hallSign v_sign)) (As := []) (rest := []) C (c_X11_faultOf l D cyI cyJ cyZ a_this a_sets a_papers a_worths a_sign a_hallSign a_chosen a_upper a_lower v_heaps v_seats v_signs v_hallMany v_chosenSet v_paidSeats v_rhoUp v_rhoBy v_breachGroup v_sign  q1 hq1) cw53 hP hD hS [0, 2] [1] [1, 0, 2] rfl rfl rfl (by decide) 0 (ci := 10) rfl rfl rfl rfl rfl hl.1 (Nat.le_of_ble_eq_true rfl) dX11_hall_1 ⟨Nat.zero_le _, Nat.zero_le _⟩ (fun H locs hP hD hS => ?_)
  refine lv_if_lt (tgt := 10) hx hb dX11_hall_4 (by decide) (fun c2 => ?_) (fun c2 => ?_)
  · have hf := ob_pos c2 hf
    refine lv_aload_n hx hb dX11_hall_10 rfl (lv_at hl 0 rfl) ?_
    refine lv_aload_n hx hb dX11_hall_11 rfl (lv_at hl 0 rfl) ?_
    refine va_get (D := D) (ci := 10) (v := .int v_signs) (C := RX11) (T := TX11) (N := 17) hx hb hts iX11 hown hK hP 0 rfl rfl 5 (by decide) fl50 (fun _ h9 => h9) rfl dX11_hall_12 ?_
    refine va_put (D := D) (ci := 10) (v := .int v_signs) (ty := .int) (C := RX11) (T := TX11) (N := 17) hx hb hts iX11 tyX11 tyX11_ok nmX11 hown hK hP hD hS 0 rfl rfl 7 (by decide) fl57 (fun _ h9 => h9) rfl (by decide +kernel) rfl rfl (Nat.le_of_ble_eq_true rfl) dX11_hall_15 (fun H locs hP hD hS => ?_)
    have hP : va_P D vwCl (wd_X11_hall cyI cyJ cyZ a_this a_sets a_papers a_worths a_sign a_hallSign a_chosen a_upper a_lower v_heaps v_seats v_signs v_signs v_chosenSet v_paidSeats v_rhoUp v_rhoBy v_breachGroup v_hallSign v_sign) H := hP
    have hD : va_D A (wd_X11_hall cyI cyJ cyZ a_this a_sets a_papers a_worths a_sign a_hallSign a_chosen a_upper a_lower v_heaps v_seats v_signs v_signs v_chosenSet v_paidSeats v_rhoUp v_rhoBy v_breachGroup v_hallSign v_sign) := hD
    refine lv_iconst (v := (0 : Int32)) hx hb dX11_hall_18 (by decide) ?_
    refine lv_istore_n (lv' := [(1, .int (0 : Int32)), (0, .ref a_this)]) hx hb dX11_hall_19 rfl hl (by decide) rfl (fun ls hl => ?_)
    obtain ⟨q6, hq6, hf⟩ := ob_bind hf
    refine wl_X11_hall_20 C FU (0 : Int32) v_hallSign _ _ _ _ hq6 (fun H locs ls hP hD hS hl => ?_) hP hD hS (lv_sub hl [1, 0] rfl)
    refine lv_aload_n hx hb dX11_hall_46 rfl (lv_at hl 0 rfl) ?_
    refine lv_iconst (v := (0 : Int32)) hx hb dX11_hall_47 (by decide) ?_
    refine va_put (D := D) (ci := 10) (v := .int (0 : Int32)) (ty := .int) (C := RX11) (T := TX11) (N := 17) hx hb hts iX11 tyX11 tyX11_ok nmX11 hown hK hP hD hS 0 rfl rfl 5 (by decide) fl50 (fun _ h9 => h9) rfl (by decide +kernel) rfl rfl (Nat.le_of_ble_eq_true rfl) dX11_hall_48 (fun H locs hP hD hS => ?_)
    have hP : va_P D vwCl (wd_X11_hall cyI cyJ cyZ a_this a_sets a_papers a_worths a_sign a_hallSign a_chosen a_upper a_lower v_heaps v_seats (0 : Int32) v_signs v_chosenSet v_paidSeats v_rhoUp v_rhoBy v_breachGroup q6 v_sign) H := hP
    have hD : va_D A (wd_X11_hall cyI cyJ cyZ a_this a_sets a_papers a_worths a_sign a_hallSign a_chosen a_upper a_lower v_heaps v_seats (0 : Int32) v_signs v_chosenSet v_paidSeats v_rhoUp v_rhoBy v_breachGroup q6 v_sign) := hD
    refine lv_iconst (v := (1 : Int32)) hx hb dX11_hall_51 (by decide) ?_
    obtain rfl := Option.some.inj hf
    exact hret _ _ _ _ dX11_hall_52 hP hD hS
  · have hf := ob_neg c2 hf
    refine lv_bipush (v := (-5 : Int32)) hx hb dX11_hall_7 (by decide) ?_
    obtain rfl := Option.some.inj hf
    exact hret _ _ _ _ dX11_hall_9 hP hD hS
abbrev rm_X11_open : Room := { frames := 0, cells := 0, slots := 0, locals := 0 }
abbrev wd_X11_open (cyI cyJ cyZ : ClassId) (a_this a_sets a_papers a_worths a_sign a_hallSign a_chosen a_upper a_lower : Nat) (v_heaps : Int32) (v_seats : Int32) (v_signs : Int32) (v_hallMany : Int32) (v_chosenSet : Int32) (v_paidSeats : Int32) (v_rhoUp : Int64) (v_rhoBy : Int64) (v_breachGroup : Int32) : va_W := [(a_this, .inr (10, [.int v_heaps, .ref a_sets, .ref a_papers, .int v_seats, .ref a_worths, .int v_signs, .ref a_sign, .int v_hallMany, .ref a_hallSign, .ref a_chosen, .int v_chosenSet, .int v_paidSeats, .ref a_upper, .ref a_lower, .long v_rhoUp, .long v_rhoBy, .int v_breachGroup]))]
def f_X11_open (v_hallMany : Int32) : Option (Int32 × Int32) := (if v_hallMany ≤ 0 then some ((0 : Int32), (0 : Int32)) else some ((1 : Int32), (0 : Int32)))
set_option maxHeartbeats 4000000 in
set_option maxRecDepth 100000 in
theorem c_X11_open (l : Launch) (D : va_G) (cyI cyJ cyZ : ClassId) (a_this a_sets a_papers a_worths a_sign a_hallSign a_chosen a_upper a_lower : Nat) (v_heaps : Int32) (v_seats : Int32) (v_signs : Int32) (v_hallMany : Int32) (v_chosenSet : Int32) (v_paidSeats : Int32) (v_rhoUp : Int64) (v_rhoBy : Int64) (v_breachGroup : Int32) (q : Int32 × Int32) (hf : f_X11_open v_hallMany = some q) : kMi l yX11_open wsX11_open rm_X11_open D (kTy cyI cyJ cyZ) [.ref a_this] (wd_X11_open cyI cyJ cyZ a_this a_sets a_papers a_worths a_sign a_hallSign a_chosen a_upper a_lower v_heaps v_seats v_signs v_hallMany v_chosenSet v_paidSeats v_rhoUp v_rhoBy v_breachGroup) (wd_X11_open cyI cyJ cyZ a_this a_sets a_papers a_worths a_sign a_hallSign a_chosen a_upper a_lower v_heaps v_seats v_signs q.2 v_chosenSet v_paidSeats v_rhoUp v_rhoBy v_breachGroup) q.1 := by
  refine kMi_of (cc := cX11_open) (nL := 2) (own := RX11) (by decide) rfl rfl (Nat.le_of_ble_eq_true rfl) ?_
  intro p e s m below meth c A Q ls C hret hP hD hS hl
  have hl : lv_has ls 2 [(0, .ref a_this)] := hl
  unfold f_X11_open at hf
  obtain ⟨hx, hb, hml, hown, hts, hK, hA⟩ := id C
  have iX11 : ∀ w ∈ u_ws RX11 TX11 17, w ∈ wsX11_open := by decide +kernel
  have fl57 := hts (.fieldLink RX11 57 "FairSeatsModel" "hallMany" "I") (by decide +kernel)
  refine lv_aload_n hx hb dX11_open_0 rfl (lv_at hl 0 rfl) ?_
  refine va_get (D := D) (ci := 10) (v := .int v_hallMany) (C := RX11) (T := TX11) (N := 17) hx hb hts iX11 hown hK hP 0 rfl rfl 7 (by decide) fl57 (fun _ h9 => h9) rfl dX11_open_1 ?_
  refine lv_if_le (tgt := 11) hx hb dX11_open_4 (by decide) (fun c1 => ?_) (fun c1 => ?_)
  · have hf := ob_pos c1 hf
    refine lv_iconst (v := (0 : Int32)) hx hb dX11_open_11 (by decide) ?_
    refine lv_istore_n (lv' := [(1, .int (0 : Int32)), (0, .ref a_this)]) hx hb dX11_open_12 rfl hl (by decide) rfl (fun ls hl => ?_)
    refine lv_aload_n hx hb dX11_open_13 rfl (lv_at hl 1 rfl) ?_
    refine lv_iconst (v := (0 : Int32)) hx hb dX11_open_14 (by decide) ?_
    refine va_put (D := D) (ci := 10) (v := .int (0 : Int32)) (ty := .int) (C := RX11) (T := TX11) (N := 17) hx hb hts iX11 tyX11 tyX11_ok nmX11 hown hK hP hD hS 0 rfl rfl 7 (by decide) fl57 (fun _ h9 => h9) rfl (by decide +kernel) rfl rfl (Nat.le_of_ble_eq_true rfl) dX11_open_15 (fun H locs hP hD hS => ?_)
    have hP : va_P D vwCl (wd_X11_open cyI cyJ cyZ a_this a_sets a_papers a_worths a_sign a_hallSign a_chosen a_upper a_lower v_heaps v_seats v_signs (0 : Int32) v_chosenSet v_paidSeats v_rhoUp v_rhoBy v_breachGroup) H := hP
    have hD : va_D A (wd_X11_open cyI cyJ cyZ a_this a_sets a_papers a_worths a_sign a_hallSign a_chosen a_upper a_lower v_heaps v_seats v_signs (0 : Int32) v_chosenSet v_paidSeats v_rhoUp v_rhoBy v_breachGroup) := hD
    refine lv_iload_n hx hb dX11_open_18 rfl (lv_at hl 0 rfl) ?_
    obtain rfl := Option.some.inj hf
    exact hret _ _ _ _ dX11_open_19 hP hD hS
  · have hf := ob_neg c1 hf
    refine lv_iconst (v := (1 : Int32)) hx hb dX11_open_7 (by decide) ?_
    refine lv_goto (tgt := 12) hx hb dX11_open_8 (by decide) ?_
    refine lv_istore_n (lv' := [(1, .int (1 : Int32)), (0, .ref a_this)]) hx hb dX11_open_12 rfl hl (by decide) rfl (fun ls hl => ?_)
    refine lv_aload_n hx hb dX11_open_13 rfl (lv_at hl 1 rfl) ?_
    refine lv_iconst (v := (0 : Int32)) hx hb dX11_open_14 (by decide) ?_
    refine va_put (D := D) (ci := 10) (v := .int (0 : Int32)) (ty := .int) (C := RX11) (T := TX11) (N := 17) hx hb hts iX11 tyX11 tyX11_ok nmX11 hown hK hP hD hS 0 rfl rfl 7 (by decide) fl57 (fun _ h9 => h9) rfl (by decide +kernel) rfl rfl (Nat.le_of_ble_eq_true rfl) dX11_open_15 (fun H locs hP hD hS => ?_)
    have hP : va_P D vwCl (wd_X11_open cyI cyJ cyZ a_this a_sets a_papers a_worths a_sign a_hallSign a_chosen a_upper a_lower v_heaps v_seats v_signs (0 : Int32) v_chosenSet v_paidSeats v_rhoUp v_rhoBy v_breachGroup) H := hP
    have hD : va_D A (wd_X11_open cyI cyJ cyZ a_this a_sets a_papers a_worths a_sign a_hallSign a_chosen a_upper a_lower v_heaps v_seats v_signs (0 : Int32) v_chosenSet v_paidSeats v_rhoUp v_rhoBy v_breachGroup) := hD
    refine lv_iload_n hx hb dX11_open_18 rfl (lv_at hl 0 rfl) ?_
    obtain rfl := Option.some.inj hf
    exact hret _ _ _ _ dX11_open_19 hP hD hS
abbrev rm_X11_barOf : Room := { frames := 1, cells := 0, slots := 0, locals := 22 }
abbrev wd_X11_barOf (cyI cyJ cyZ : ClassId) (a_this a_sets a_papers a_worths a_sign a_hallSign a_chosen a_upper a_lower : Nat) (v_heaps : Int32) (v_seats : Int32) (v_signs : Int32) (v_hallMany : Int32) (v_chosenSet : Int32) (v_paidSeats : Int32) (v_rhoUp : Int64) (v_rhoBy : Int64) (v_breachGroup : Int32) (v_hallSign : Nat → Int32) : va_W := [(a_this, .inr (10, [.int v_heaps, .ref a_sets, .ref a_papers, .int v_seats, .ref a_worths, .int v_signs, .ref a_sign, .int v_hallMany, .ref a_hallSign, .ref a_chosen, .int v_chosenSet, .int v_paidSeats, .ref a_upper, .ref a_lower, .long v_rhoUp, .long v_rhoBy, .int v_breachGroup])), (a_hallSign, .inl (cyI, 40, .inl v_hallSign))]
def lp_X11_barOf_10 (y1 : Int32) (v_hallMany : Int32) (v_hallSign : Nat → Int32) (k : (Unit) → Option (Int32)) : Nat → Int32 → Int32 → Int32 → Int32 → Option (Int32)
  | 0, _, _, _, _ => none
  | n + 1, y2, y3, y4, y5 => (if v_hallMany ≤ y5 then k () else (if ob_in y5 40 = true then (f_X11_in (v_hallSign y5.toNatClampNeg) (97 : Int32) (104 : Int32)).bind (fun q3 => (if q3 = 0 then (f_X11_in (v_hallSign y5.toNatClampNeg) (48 : Int32) (52 : Int32)).bind (fun q5 => (if q5 = 0 then (if (v_hallSign y5.toNatClampNeg) = (59 : Int32) then lp_X11_barOf_10 y1 v_hallMany v_hallSign k n (y2 + (1 : Int32)) (0 : Int32) y4 (y5 + (1 : Int32)) else lp_X11_barOf_10 y1 v_hallMany v_hallSign k n y2 y3 (v_hallSign y5.toNatClampNeg) (y5 + (1 : Int32))) else (f_X11_bits (y3 &&& y1)).bind (fun q8 => (if y4 = (60 : Int32) then (if q8 < ((v_hallSign y5.toNatClampNeg) - (48 : Int32)) then lp_X11_barOf_10 y1 v_hallMany v_hallSign k n y2 y3 y4 (y5 + (1 : Int32)) else some y2) else (if ((v_hallSign y5.toNatClampNeg) - (48 : Int32)) < q8 then lp_X11_barOf_10 y1 v_hallMany v_hallSign k n y2 y3 y4 (y5 + (1 : Int32)) else some y2))))) else lp_X11_barOf_10 y1 v_hallMany v_hallSign k n y2 (y3 ||| ((1 : Int32) <<< (((v_hallSign y5.toNatClampNeg) - (97 : Int32)) &&& 31))) y4 (y5 + (1 : Int32)))) else none))
def f_X11_barOf (x1 : Int32) (v_hallMany : Int32) (v_hallSign : Nat → Int32) : Option (Int32) := lp_X11_barOf_10 x1 v_hallMany v_hallSign (fun q12 => some (-6 : Int32)) FU (0 : Int32) (0 : Int32) (0 : Int32) (0 : Int32)
set_option maxHeartbeats 4000000 in
set_option maxRecDepth 100000 in
theorem wl_X11_barOf_10 {p : Program} {l : Launch} {e : Env} {s : State} {m : MethodId} {args : Array Value} {below : List Frame} {meth : Method} {c : Code} {A : Nat → Prop} {Q : State → Prop} {D : va_G} {cyI cyJ cyZ : ClassId} {a_this a_sets a_papers a_worths a_sign a_hallSign a_chosen a_upper a_lower : Nat} {y1 : Int32} {v_heaps : Int32} {v_seats : Int32} {v_signs : Int32} {v_hallMany : Int32} {v_chosenSet : Int32} {v_paidSeats : Int32} {v_rhoUp : Int64} {v_rhoBy : Int64} {v_breachGroup : Int32} {v_hallSign : Nat → Int32} {k : (Unit) → Option (Int32)} {q : Int32} (C : kC p s m args c cX11_barOf 8 RX11 wsX11_barOf D (kTy cyI cyJ cyZ) A) (hret : ∀ (pc : Nat) (H : Heap) (locs : List Loc) (ls : Array Slot), decode cX11_barOf pc = .ok (.ireturn, 1) → va_P D vwCl (wd_X11_barOf cyI cyJ cyZ a_this a_sets a_papers a_worths a_sign a_hallSign a_chosen a_upper a_lower v_heaps v_seats v_signs v_hallMany v_chosenSet v_paidSeats v_rhoUp v_rhoBy v_breachGroup v_hallSign) H → va_D A (wd_X11_barOf cyI cyJ cyZ a_this a_sets a_papers a_worths a_sign a_hallSign a_chosen a_upper a_lower v_heaps v_seats v_signs v_hallMany v_chosenSet v_paidSeats v_rhoUp v_rhoBy v_breachGroup v_hallSign) → va_S A s.heap H locs → W p l e rm_X11_barOf s m args below meth c H locs 0 0 Q (F0 m pc ls [.int q])) (K : (∀ (x : Unit) (H : Heap) (locs : List Loc) (ls : Array Slot), k x = some q → va_P D vwCl (wd_X11_barOf cyI cyJ cyZ a_this a_sets a_papers a_worths a_sign a_hallSign a_chosen a_upper a_lower v_heaps v_seats v_signs v_hallMany v_chosenSet v_paidSeats v_rhoUp v_rhoBy v_breachGroup v_hallSign) H → va_D A (wd_X11_barOf cyI cyJ cyZ a_this a_sets a_papers a_worths a_sign a_hallSign a_chosen a_upper a_lower v_heaps v_seats v_signs v_hallMany v_chosenSet v_paidSeats v_rhoUp v_rhoBy v_breachGroup v_hallSign) → va_S A s.heap H locs → lv_has ls 8 [] → W p l e rm_X11_barOf s m args below meth c H locs 0 0 Q (F0 m 133 ls []))) :
    ∀ (n : Nat) (y2 : Int32) (y3 : Int32) (y4 : Int32) (y5 : Int32) (H : Heap) (locs : List Loc) (ls : Array Slot), lp_X11_barOf_10 y1 v_hallMany v_hallSign k n y2 y3 y4 y5 = some q → va_P D vwCl (wd_X11_barOf cyI cyJ cyZ a_this a_sets a_papers a_worths a_sign a_hallSign a_chosen a_upper a_lower v_heaps v_seats v_signs v_hallMany v_chosenSet v_paidSeats v_rhoUp v_rhoBy v_breachGroup v_hallSign) H → va_D A (wd_X11_barOf cyI cyJ cyZ a_this a_sets a_papers a_worths a_sign a_hallSign a_chosen a_upper a_lower v_heaps v_seats v_signs v_hallMany v_chosenSet v_paidSeats v_rhoUp v_rhoBy v_breachGroup v_hallSign) → va_S A s.heap H locs → lv_has ls 8 [(0, .ref a_this), (1, .int y1), (2, .int y2), (3, .int y3), (4, .int y4), (5, .int y5)] → W p l e rm_X11_barOf s m args below meth c H locs 0 0 Q (F0 m 10 ls []) := by
  obtain ⟨hx, hb, hml, hown, hts, hK, hA⟩ := id C
  have iX11 : ∀ w ∈ u_ws RX11 TX11 17, w ∈ wsX11_barOf := by decide +kernel
  have fl26 := hts (.fieldLink RX11 26 "FairSeatsModel" "hallSign" "[I") (by decide +kernel)
  have fl57 := hts (.fieldLink RX11 57 "FairSeatsModel" "hallMany" "I") (by decide +kernel)
  have cw42 := va_cwS (R := rm_X11_barOf) (rm := rm_X11_in) 3 hts gX11_barOf_X11_in rfl rfl rfl (by decide +kernel) ⟨Nat.le_of_ble_eq_true rfl, Nat.le_of_ble_eq_true rfl⟩
  have cw60 := va_cwS (R := rm_X11_barOf) (rm := rm_X11_bits) 1 hts gX11_barOf_X11_bits rfl rfl rfl (by decide +kernel) ⟨Nat.le_of_ble_eq_true rfl, Nat.le_of_ble_eq_true rfl⟩
  intro n
  induction n with
  | zero =>
    intro y2 y3 y4 y5 H locs ls hf hP hD hS hl
    rw [lp_X11_barOf_10] at hf
    cases hf
  | succ n ih =>
    intro y2 y3 y4 y5 H locs ls hf hP hD hS hl
    rw [lp_X11_barOf_10] at hf
    refine lv_iload hx hb dX11_barOf_10 (lv_at hl 5 rfl) ?_
    refine lv_aload_n hx hb dX11_barOf_12 rfl (lv_at hl 0 rfl) ?_
    refine va_get (D := D) (ci := 10) (v := .int v_hallMany) (C := RX11) (T := TX11) (N := 17) hx hb hts iX11 hown hK hP 0 rfl rfl 7 (by decide) fl57 (fun _ h9 => h9) rfl dX11_barOf_13 ?_
    refine lv_icmp_ge (tgt := 133) hx hb dX11_barOf_16 (by decide) (fun c1 => ?_) (fun c1 => ?_)
    · have hf := ob_pos c1 hf
      exact K () _ _ _ hf hP hD hS (lv_sub hl [] rfl)
    · have hf := ob_neg c1 hf
      refine lv_aload_n hx hb dX11_barOf_19 rfl (lv_at hl 0 rfl) ?_
      refine va_get (D := D) (ci := 10) (v := .ref a_hallSign) (C := RX11) (T := TX11) (N := 17) hx hb hts iX11 hown hK hP 0 rfl rfl 8 (by decide) fl26 (fun _ h9 => h9) rfl dX11_barOf_20 ?_
      refine lv_iload hx hb dX11_barOf_23 (lv_at hl 5 rfl) ?_
      obtain ⟨h2, hf⟩ := og_in hf
      refine va_iald hx hb hK hP 1 0 rfl rfl h2 dX11_barOf_25 ?_
      refine lv_istore (lv' := [(6, .int (v_hallSign y5.toNatClampNeg)), (0, .ref a_this), (1, .int y1), (2, .int y2), (3, .int y3), (4, .int y4), (5, .int y5)]) hx hb dX11_barOf_26 hl (by decide) rfl (fun ls hl => ?_)
      refine lv_iload hx hb dX11_barOf_28 (lv_at hl 0 rfl) ?_
      refine lv_bipush (v := (97 : Int32)) hx hb dX11_barOf_30 (by decide) ?_
      refine lv_bipush (v := (104 : Int32)) hx hb dX11_barOf_32 (by decide) ?_
      obtain ⟨q3, hq3, hf⟩ := ob_bind hf
      refine k_Sz (wo := (wd_X11_barOf cyI cyJ cyZ a_this a_sets a_papers a_worths a_sign a_hallSign a_chosen a_upper a_lower v_heaps v_seats v_signs v_hallMany v_chosenSet v_paidSeats v_rhoUp v_rhoBy v_breachGroup v_hallSign)) (As := [.int (v_hallSign y5.toNatClampNeg), .int (97 : Int32), .int (104 : Int32)]) (rest := []) C (c_X11_in l D cyI cyJ cyZ   (v_hallSign y5.toNatClampNeg) (97 : Int32) (104 : Int32) q3 hq3) cw42 hP hD hS [] [0, 1] [0, 1] rfl rfl rfl (by decide) rfl rfl hl.1 (Nat.le_of_ble_eq_true rfl) dX11_barOf_34 ⟨Nat.zero_le _, Nat.zero_le _⟩ (fun H locs zq3 hP hD hS => ?_)
      refine lv_if_eq (tgt := 53) hx hb dX11_barOf_37 (by decide) (fun c4 => ?_) (fun c4 => ?_)
      · have hf := ob_pos c4 hf
        refine lv_iload hx hb dX11_barOf_53 (lv_at hl 0 rfl) ?_
        refine lv_bipush (v := (48 : Int32)) hx hb dX11_barOf_55 (by decide) ?_
        refine lv_bipush (v := (52 : Int32)) hx hb dX11_barOf_57 (by decide) ?_
        obtain ⟨q5, hq5, hf⟩ := ob_bind hf
        refine k_Sz (wo := (wd_X11_barOf cyI cyJ cyZ a_this a_sets a_papers a_worths a_sign a_hallSign a_chosen a_upper a_lower v_heaps v_seats v_signs v_hallMany v_chosenSet v_paidSeats v_rhoUp v_rhoBy v_breachGroup v_hallSign)) (As := [.int (v_hallSign y5.toNatClampNeg), .int (48 : Int32), .int (52 : Int32)]) (rest := []) C (c_X11_in l D cyI cyJ cyZ   (v_hallSign y5.toNatClampNeg) (48 : Int32) (52 : Int32) q5 hq5) cw42 hP hD hS [] [0, 1] [0, 1] rfl rfl rfl (by decide) rfl rfl hl.1 (Nat.le_of_ble_eq_true rfl) dX11_barOf_59 ⟨Nat.zero_le _, Nat.zero_le _⟩ (fun H locs zq5 hP hD hS => ?_)
        refine lv_if_eq (tgt := 108) hx hb dX11_barOf_62 (by decide) (fun c6 => ?_) (fun c6 => ?_)
        · have hf := ob_pos c6 hf
          refine lv_iload hx hb dX11_barOf_108 (lv_at hl 0 rfl) ?_
          refine lv_bipush (v := (59 : Int32)) hx hb dX11_barOf_110 (by decide) ?_
          refine lv_icmp_ne (tgt := 123) hx hb dX11_barOf_112 (by decide) (fun c7 => ?_) (fun c7 => ?_)
          · have hf := ob_neg c7 hf
            refine lv_iload hx hb dX11_barOf_123 (lv_at hl 0 rfl) ?_
            refine lv_istore (lv' := [(4, .int (v_hallSign y5.toNatClampNeg)), (6, .int (v_hallSign y5.toNatClampNeg)), (0, .ref a_this), (1, .int y1), (2, .int y2), (3, .int y3), (5, .int y5)]) hx hb dX11_barOf_125 hl (by decide) rfl (fun ls hl => ?_)
            refine lv_iinc (v := (y5 + (1 : Int32))) (lv' := [(5, .int (y5 + (1 : Int32))), (4, .int (v_hallSign y5.toNatClampNeg)), (6, .int (v_hallSign y5.toNatClampNeg)), (0, .ref a_this), (1, .int y1), (2, .int y2), (3, .int y3)]) hx hb dX11_barOf_127 hl (k := 6) rfl rfl (by decide) rfl (fun ls hl => ?_)
            refine lv_goto (tgt := 10) hx hb dX11_barOf_130 (by decide) ?_
            exact ih y2 y3 (v_hallSign y5.toNatClampNeg) (y5 + (1 : Int32)) _ _ _ hf hP hD hS (lv_sub hl [3, 4, 5, 6, 1, 0] rfl)
          · have hf := ob_pos c7 hf
            refine lv_iinc (v := (y2 + (1 : Int32))) (lv' := [(2, .int (y2 + (1 : Int32))), (6, .int (v_hallSign y5.toNatClampNeg)), (0, .ref a_this), (1, .int y1), (3, .int y3), (4, .int y4), (5, .int y5)]) hx hb dX11_barOf_115 hl (k := 3) rfl rfl (by decide) rfl (fun ls hl => ?_)
            refine lv_iconst (v := (0 : Int32)) hx hb dX11_barOf_118 (by decide) ?_
            refine lv_istore_n (lv' := [(3, .int (0 : Int32)), (2, .int (y2 + (1 : Int32))), (6, .int (v_hallSign y5.toNatClampNeg)), (0, .ref a_this), (1, .int y1), (4, .int y4), (5, .int y5)]) hx hb dX11_barOf_119 rfl hl (by decide) rfl (fun ls hl => ?_)
            refine lv_goto (tgt := 127) hx hb dX11_barOf_120 (by decide) ?_
            refine lv_iinc (v := (y5 + (1 : Int32))) (lv' := [(5, .int (y5 + (1 : Int32))), (3, .int (0 : Int32)), (2, .int (y2 + (1 : Int32))), (6, .int (v_hallSign y5.toNatClampNeg)), (0, .ref a_this), (1, .int y1), (4, .int y4)]) hx hb dX11_barOf_127 hl (k := 6) rfl rfl (by decide) rfl (fun ls hl => ?_)
            refine lv_goto (tgt := 10) hx hb dX11_barOf_130 (by decide) ?_
            exact ih (y2 + (1 : Int32)) (0 : Int32) y4 (y5 + (1 : Int32)) _ _ _ hf hP hD hS (lv_sub hl [4, 5, 2, 1, 6, 0] rfl)
        · have hf := ob_neg c6 hf
          refine lv_iload_n hx hb dX11_barOf_65 rfl (lv_at hl 4 rfl) ?_
          refine lv_iload_n hx hb dX11_barOf_66 rfl (lv_at hl 2 rfl) ?_
          refine lv_iand hx hb dX11_barOf_67 ?_
          obtain ⟨q8, hq8, hf⟩ := ob_bind hf
          refine k_Si (wo := (wd_X11_barOf cyI cyJ cyZ a_this a_sets a_papers a_worths a_sign a_hallSign a_chosen a_upper a_lower v_heaps v_seats v_signs v_hallMany v_chosenSet v_paidSeats v_rhoUp v_rhoBy v_breachGroup v_hallSign)) (As := [.int (y3 &&& y1)]) (rest := []) C (c_X11_bits l D cyI cyJ cyZ   (y3 &&& y1) q8 hq8) cw60 hP hD hS [] [0, 1] [0, 1] rfl rfl rfl (by decide) rfl rfl hl.1 (Nat.le_of_ble_eq_true rfl) dX11_barOf_68 ⟨Nat.zero_le _, Nat.zero_le _⟩ (fun H locs hP hD hS => ?_)
          refine lv_istore (lv' := [(7, .int q8), (6, .int (v_hallSign y5.toNatClampNeg)), (0, .ref a_this), (1, .int y1), (2, .int y2), (3, .int y3), (4, .int y4), (5, .int y5)]) hx hb dX11_barOf_71 hl (by decide) rfl (fun ls hl => ?_)
          refine lv_iload hx hb dX11_barOf_73 (lv_at hl 6 rfl) ?_
          refine lv_bipush (v := (60 : Int32)) hx hb dX11_barOf_75 (by decide) ?_
          refine lv_icmp_ne (tgt := 93) hx hb dX11_barOf_77 (by decide) (fun c9 => ?_) (fun c9 => ?_)
          · have hf := ob_neg c9 hf
            refine lv_iload hx hb dX11_barOf_93 (lv_at hl 0 rfl) ?_
            refine lv_iload hx hb dX11_barOf_95 (lv_at hl 1 rfl) ?_
            refine lv_bipush (v := (48 : Int32)) hx hb dX11_barOf_97 (by decide) ?_
            refine lv_isub hx hb dX11_barOf_99 ?_
            refine lv_icmp_gt (tgt := 105) hx hb dX11_barOf_100 (by decide) (fun c10 => ?_) (fun c10 => ?_)
            · have hf := ob_pos c10 hf
              refine lv_goto (tgt := 127) hx hb dX11_barOf_105 (by decide) ?_
              refine lv_iinc (v := (y5 + (1 : Int32))) (lv' := [(5, .int (y5 + (1 : Int32))), (7, .int q8), (6, .int (v_hallSign y5.toNatClampNeg)), (0, .ref a_this), (1, .int y1), (2, .int y2), (3, .int y3), (4, .int y4)]) hx hb dX11_barOf_127 hl (k := 7) rfl rfl (by decide) rfl (fun ls hl => ?_)
              refine lv_goto (tgt := 10) hx hb dX11_barOf_130 (by decide) ?_
              exact ih y2 y3 y4 (y5 + (1 : Int32)) _ _ _ hf hP hD hS (lv_sub hl [3, 4, 5, 6, 7, 0] rfl)
            · have hf := ob_neg c10 hf
              refine lv_iload_n hx hb dX11_barOf_103 rfl (lv_at hl 4 rfl) ?_
              obtain rfl := Option.some.inj hf
              exact hret _ _ _ _ dX11_barOf_104 hP hD hS
          · have hf := ob_pos c9 hf
            refine lv_iload hx hb dX11_barOf_80 (lv_at hl 0 rfl) ?_
            refine lv_iload hx hb dX11_barOf_82 (lv_at hl 1 rfl) ?_
            refine lv_bipush (v := (48 : Int32)) hx hb dX11_barOf_84 (by decide) ?_
            refine lv_isub hx hb dX11_barOf_86 ?_
            refine lv_icmp_lt (tgt := 105) hx hb dX11_barOf_87 (by decide) (fun c11 => ?_) (fun c11 => ?_)
            · have hf := ob_pos c11 hf
              refine lv_goto (tgt := 127) hx hb dX11_barOf_105 (by decide) ?_
              refine lv_iinc (v := (y5 + (1 : Int32))) (lv' := [(5, .int (y5 + (1 : Int32))), (7, .int q8), (6, .int (v_hallSign y5.toNatClampNeg)), (0, .ref a_this), (1, .int y1), (2, .int y2), (3, .int y3), (4, .int y4)]) hx hb dX11_barOf_127 hl (k := 7) rfl rfl (by decide) rfl (fun ls hl => ?_)
              refine lv_goto (tgt := 10) hx hb dX11_barOf_130 (by decide) ?_
              exact ih y2 y3 y4 (y5 + (1 : Int32)) _ _ _ hf hP hD hS (lv_sub hl [3, 4, 5, 6, 7, 0] rfl)
            · have hf := ob_neg c11 hf
              refine lv_goto (tgt := 103) hx hb dX11_barOf_90 (by decide) ?_
              refine lv_iload_n hx hb dX11_barOf_103 rfl (lv_at hl 4 rfl) ?_
              obtain rfl := Option.some.inj hf
              exact hret _ _ _ _ dX11_barOf_104 hP hD hS
      · have hf := ob_neg c4 hf
        refine lv_iload_n hx hb dX11_barOf_40 rfl (lv_at hl 4 rfl) ?_
        refine lv_iconst (v := (1 : Int32)) hx hb dX11_barOf_41 (by decide) ?_
        refine lv_iload hx hb dX11_barOf_42 (lv_at hl 0 rfl) ?_
        refine lv_bipush (v := (97 : Int32)) hx hb dX11_barOf_44 (by decide) ?_
        refine lv_isub hx hb dX11_barOf_46 ?_
        refine lv_ishl hx hb dX11_barOf_47 ?_
        refine lv_ior hx hb dX11_barOf_48 ?_
        refine lv_istore_n (lv' := [(3, .int (y3 ||| ((1 : Int32) <<< (((v_hallSign y5.toNatClampNeg) - (97 : Int32)) &&& 31)))), (6, .int (v_hallSign y5.toNatClampNeg)), (0, .ref a_this), (1, .int y1), (2, .int y2), (4, .int y4), (5, .int y5)]) hx hb dX11_barOf_49 rfl hl (by decide) rfl (fun ls hl => ?_)
        refine lv_goto (tgt := 127) hx hb dX11_barOf_50 (by decide) ?_
        refine lv_iinc (v := (y5 + (1 : Int32))) (lv' := [(5, .int (y5 + (1 : Int32))), (3, .int (y3 ||| ((1 : Int32) <<< (((v_hallSign y5.toNatClampNeg) - (97 : Int32)) &&& 31)))), (6, .int (v_hallSign y5.toNatClampNeg)), (0, .ref a_this), (1, .int y1), (2, .int y2), (4, .int y4)]) hx hb dX11_barOf_127 hl (k := 6) rfl rfl (by decide) rfl (fun ls hl => ?_)
        refine lv_goto (tgt := 10) hx hb dX11_barOf_130 (by decide) ?_
        exact ih y2 (y3 ||| ((1 : Int32) <<< (((v_hallSign y5.toNatClampNeg) - (97 : Int32)) &&& 31))) y4 (y5 + (1 : Int32)) _ _ _ hf hP hD hS (lv_sub hl [3, 4, 5, 1, 6, 0] rfl)
set_option maxHeartbeats 4000000 in
set_option maxRecDepth 100000 in
theorem c_X11_barOf (l : Launch) (D : va_G) (cyI cyJ cyZ : ClassId) (a_this a_sets a_papers a_worths a_sign a_hallSign a_chosen a_upper a_lower : Nat) (v_heaps : Int32) (v_seats : Int32) (v_signs : Int32) (v_hallMany : Int32) (v_chosenSet : Int32) (v_paidSeats : Int32) (v_rhoUp : Int64) (v_rhoBy : Int64) (v_breachGroup : Int32) (v_hallSign : Nat → Int32) (x1 : Int32) (q : Int32) (hf : f_X11_barOf x1 v_hallMany v_hallSign = some q) : kMi l yX11_barOf wsX11_barOf rm_X11_barOf D (kTy cyI cyJ cyZ) [.ref a_this, .int x1] (wd_X11_barOf cyI cyJ cyZ a_this a_sets a_papers a_worths a_sign a_hallSign a_chosen a_upper a_lower v_heaps v_seats v_signs v_hallMany v_chosenSet v_paidSeats v_rhoUp v_rhoBy v_breachGroup v_hallSign) (wd_X11_barOf cyI cyJ cyZ a_this a_sets a_papers a_worths a_sign a_hallSign a_chosen a_upper a_lower v_heaps v_seats v_signs v_hallMany v_chosenSet v_paidSeats v_rhoUp v_rhoBy v_breachGroup v_hallSign) q := by
  refine kMi_of (cc := cX11_barOf) (nL := 8) (own := RX11) (by decide) rfl rfl (Nat.le_of_ble_eq_true rfl) ?_
  intro p e s m below meth c A Q ls C hret hP hD hS hl
  have hl : lv_has ls 8 [(0, .ref a_this), (1, .int x1)] := hl
  unfold f_X11_barOf at hf
  obtain ⟨hx, hb, hml, hown, hts, hK, hA⟩ := id C
  refine lv_iconst (v := (0 : Int32)) hx hb dX11_barOf_0 (by decide) ?_
  refine lv_istore_n (lv' := [(2, .int (0 : Int32)), (0, .ref a_this), (1, .int x1)]) hx hb dX11_barOf_1 rfl hl (by decide) rfl (fun ls hl => ?_)
  refine lv_iconst (v := (0 : Int32)) hx hb dX11_barOf_2 (by decide) ?_
  refine lv_istore_n (lv' := [(3, .int (0 : Int32)), (2, .int (0 : Int32)), (0, .ref a_this), (1, .int x1)]) hx hb dX11_barOf_3 rfl hl (by decide) rfl (fun ls hl => ?_)
  refine lv_iconst (v := (0 : Int32)) hx hb dX11_barOf_4 (by decide) ?_
  refine lv_istore (lv' := [(4, .int (0 : Int32)), (3, .int (0 : Int32)), (2, .int (0 : Int32)), (0, .ref a_this), (1, .int x1)]) hx hb dX11_barOf_5 hl (by decide) rfl (fun ls hl => ?_)
  refine lv_iconst (v := (0 : Int32)) hx hb dX11_barOf_7 (by decide) ?_
  refine lv_istore (lv' := [(5, .int (0 : Int32)), (4, .int (0 : Int32)), (3, .int (0 : Int32)), (2, .int (0 : Int32)), (0, .ref a_this), (1, .int x1)]) hx hb dX11_barOf_8 hl (by decide) rfl (fun ls hl => ?_)
  refine wl_X11_barOf_10 C hret (fun q12 H locs ls hf hP hD hS hl => ?_) FU (0 : Int32) (0 : Int32) (0 : Int32) (0 : Int32) _ _ _ hf hP hD hS (lv_sub hl [4, 5, 3, 2, 1, 0] rfl)
  refine lv_bipush (v := (-6 : Int32)) hx hb dX11_barOf_133 (by decide) ?_
  obtain rfl := Option.some.inj hf
  exact hret _ _ _ _ dX11_barOf_135 hP hD hS
abbrev rm_X11_worthOf : Room := { frames := 1, cells := 0, slots := 0, locals := 22 }
abbrev wd_X11_worthOf (cyI cyJ cyZ : ClassId) (a_this a_sets a_papers a_worths a_sign a_hallSign a_chosen a_upper a_lower : Nat) (v_heaps : Int32) (v_seats : Int32) (v_signs : Int32) (v_hallMany : Int32) (v_chosenSet : Int32) (v_paidSeats : Int32) (v_rhoUp : Int64) (v_rhoBy : Int64) (v_breachGroup : Int32) (v_papers : Nat → Int32) (v_sets : Nat → Int32) (v_worths : Nat → Int32) : va_W := [(a_this, .inr (10, [.int v_heaps, .ref a_sets, .ref a_papers, .int v_seats, .ref a_worths, .int v_signs, .ref a_sign, .int v_hallMany, .ref a_hallSign, .ref a_chosen, .int v_chosenSet, .int v_paidSeats, .ref a_upper, .ref a_lower, .long v_rhoUp, .long v_rhoBy, .int v_breachGroup])), (a_papers, .inl (cyI, 7, .inl v_papers)), (a_sets, .inl (cyI, 7, .inl v_sets)), (a_worths, .inl (cyI, 4, .inl v_worths))]
def lp_X11_worthOf_28 (y1 : Int32) (y3 : Int32) (y4 : Int32) (v_papers : Nat → Int32) (v_worths : Nat → Int32) : Nat → Int32 → Int32 → Option (Int32)
  | 0, _, _ => none
  | n + 1, y2, y5 => (if y4 ≤ y5 then some y2 else (if (4 : Int32) ≤ y5 then some y2 else (if ob_in y3 7 = true then (if ob_in y5 4 = true then lp_X11_worthOf_28 y1 y3 y4 v_papers v_worths n (y2 + ((v_papers y3.toNatClampNeg) * (v_worths y5.toNatClampNeg))) (y5 + (1 : Int32)) else none) else none)))
def lp_X11_worthOf_4 (y1 : Int32) (v_heaps : Int32) (v_papers : Nat → Int32) (v_sets : Nat → Int32) (v_worths : Nat → Int32) : Nat → Int32 → Int32 → Option (Int32)
  | 0, _, _ => none
  | n + 1, y2, y3 => (if v_heaps ≤ y3 then some y2 else (if ob_in y3 7 = true then (f_X11_bits (y1 &&& (v_sets y3.toNatClampNeg))).bind (fun q3 => (lp_X11_worthOf_28 y1 y3 q3 v_papers v_worths FU y2 (0 : Int32)).bind (fun q8 => lp_X11_worthOf_4 y1 v_heaps v_papers v_sets v_worths n q8 (y3 + (1 : Int32)))) else none))
def f_X11_worthOf (x1 : Int32) (v_heaps : Int32) (v_papers : Nat → Int32) (v_sets : Nat → Int32) (v_worths : Nat → Int32) : Option (Int32) := (lp_X11_worthOf_4 x1 v_heaps v_papers v_sets v_worths FU (0 : Int32) (0 : Int32)).bind (fun q9 => some q9)
set_option maxHeartbeats 4000000 in
set_option maxRecDepth 100000 in
theorem wl_X11_worthOf_28 {p : Program} {l : Launch} {e : Env} {s : State} {m : MethodId} {args : Array Value} {below : List Frame} {meth : Method} {c : Code} {A : Nat → Prop} {Q : State → Prop} {D : va_G} {cyI cyJ cyZ : ClassId} {a_this a_sets a_papers a_worths a_sign a_hallSign a_chosen a_upper a_lower : Nat} {y1 : Int32} {y3 : Int32} {y4 : Int32} {v_heaps : Int32} {v_seats : Int32} {v_signs : Int32} {v_hallMany : Int32} {v_chosenSet : Int32} {v_paidSeats : Int32} {v_rhoUp : Int64} {v_rhoBy : Int64} {v_breachGroup : Int32} {v_papers : Nat → Int32} {v_sets : Nat → Int32} {v_worths : Nat → Int32} (C : kC p s m args c cX11_worthOf 6 RX11 wsX11_worthOf D (kTy cyI cyJ cyZ) A) :
    ∀ (n : Nat) (y2 : Int32) (y5 : Int32) (q : Int32) (H : Heap) (locs : List Loc) (ls : Array Slot), lp_X11_worthOf_28 y1 y3 y4 v_papers v_worths n y2 y5 = some q → (∀ (H : Heap) (locs : List Loc) (ls : Array Slot), va_P D vwCl (wd_X11_worthOf cyI cyJ cyZ a_this a_sets a_papers a_worths a_sign a_hallSign a_chosen a_upper a_lower v_heaps v_seats v_signs v_hallMany v_chosenSet v_paidSeats v_rhoUp v_rhoBy v_breachGroup v_papers v_sets v_worths) H → va_D A (wd_X11_worthOf cyI cyJ cyZ a_this a_sets a_papers a_worths a_sign a_hallSign a_chosen a_upper a_lower v_heaps v_seats v_signs v_hallMany v_chosenSet v_paidSeats v_rhoUp v_rhoBy v_breachGroup v_papers v_sets v_worths) → va_S A s.heap H locs → lv_has ls 6 [(0, .ref a_this), (1, .int y1), (2, .int q), (3, .int y3)] → W p l e rm_X11_worthOf s m args below meth c H locs 0 0 Q (F0 m 64 ls [])) → va_P D vwCl (wd_X11_worthOf cyI cyJ cyZ a_this a_sets a_papers a_worths a_sign a_hallSign a_chosen a_upper a_lower v_heaps v_seats v_signs v_hallMany v_chosenSet v_paidSeats v_rhoUp v_rhoBy v_breachGroup v_papers v_sets v_worths) H → va_D A (wd_X11_worthOf cyI cyJ cyZ a_this a_sets a_papers a_worths a_sign a_hallSign a_chosen a_upper a_lower v_heaps v_seats v_signs v_hallMany v_chosenSet v_paidSeats v_rhoUp v_rhoBy v_breachGroup v_papers v_sets v_worths) → va_S A s.heap H locs → lv_has ls 6 [(0, .ref a_this), (1, .int y1), (2, .int y2), (3, .int y3), (4, .int y4), (5, .int y5)] → W p l e rm_X11_worthOf s m args below meth c H locs 0 0 Q (F0 m 28 ls []) := by
  obtain ⟨hx, hb, hml, hown, hts, hK, hA⟩ := id C
  have iX11 : ∀ w ∈ u_ws RX11 TX11 17, w ∈ wsX11_worthOf := by decide +kernel
  have fl13 := hts (.fieldLink RX11 13 "FairSeatsModel" "papers" "[I") (by decide +kernel)
  have fl20 := hts (.fieldLink RX11 20 "FairSeatsModel" "worths" "[I") (by decide +kernel)
  intro n
  induction n with
  | zero =>
    intro y2 y5 q H locs ls hf K hP hD hS hl
    rw [lp_X11_worthOf_28] at hf
    cases hf
  | succ n ih =>
    intro y2 y5 q H locs ls hf K hP hD hS hl
    rw [lp_X11_worthOf_28] at hf
    refine lv_iload hx hb dX11_worthOf_28 (lv_at hl 5 rfl) ?_
    refine lv_iload hx hb dX11_worthOf_30 (lv_at hl 4 rfl) ?_
    refine lv_icmp_ge (tgt := 64) hx hb dX11_worthOf_32 (by decide) (fun c4 => ?_) (fun c4 => ?_)
    · have hf := ob_pos c4 hf
      obtain rfl := Option.some.inj hf
      exact K _ _ _ hP hD hS (lv_sub hl [0, 1, 2, 3] rfl)
    · have hf := ob_neg c4 hf
      refine lv_iload hx hb dX11_worthOf_35 (lv_at hl 5 rfl) ?_
      refine lv_iconst (v := (4 : Int32)) hx hb dX11_worthOf_37 (by decide) ?_
      refine lv_icmp_ge (tgt := 64) hx hb dX11_worthOf_38 (by decide) (fun c5 => ?_) (fun c5 => ?_)
      · have hf := ob_pos c5 hf
        obtain rfl := Option.some.inj hf
        exact K _ _ _ hP hD hS (lv_sub hl [0, 1, 2, 3] rfl)
      · have hf := ob_neg c5 hf
        refine lv_iload_n hx hb dX11_worthOf_41 rfl (lv_at hl 2 rfl) ?_
        refine lv_aload_n hx hb dX11_worthOf_42 rfl (lv_at hl 0 rfl) ?_
        refine va_get (D := D) (ci := 10) (v := .ref a_papers) (C := RX11) (T := TX11) (N := 17) hx hb hts iX11 hown hK hP 0 rfl rfl 2 (by decide) fl13 (fun _ h9 => h9) rfl dX11_worthOf_43 ?_
        refine lv_iload_n hx hb dX11_worthOf_46 rfl (lv_at hl 3 rfl) ?_
        obtain ⟨h6, hf⟩ := og_in hf
        refine va_iald hx hb hK hP 1 0 rfl rfl h6 dX11_worthOf_47 ?_
        refine lv_aload_n hx hb dX11_worthOf_48 rfl (lv_at hl 0 rfl) ?_
        refine va_get (D := D) (ci := 10) (v := .ref a_worths) (C := RX11) (T := TX11) (N := 17) hx hb hts iX11 hown hK hP 0 rfl rfl 4 (by decide) fl20 (fun _ h9 => h9) rfl dX11_worthOf_49 ?_
        refine lv_iload hx hb dX11_worthOf_52 (lv_at hl 5 rfl) ?_
        obtain ⟨h7, hf⟩ := og_in hf
        refine va_iald hx hb hK hP 3 0 rfl rfl h7 dX11_worthOf_54 ?_
        refine lv_imul hx hb dX11_worthOf_55 ?_
        refine lv_iadd hx hb dX11_worthOf_56 ?_
        refine lv_istore_n (lv' := [(2, .int (y2 + ((v_papers y3.toNatClampNeg) * (v_worths y5.toNatClampNeg)))), (0, .ref a_this), (1, .int y1), (3, .int y3), (4, .int y4), (5, .int y5)]) hx hb dX11_worthOf_57 rfl hl (by decide) rfl (fun ls hl => ?_)
        refine lv_iinc (v := (y5 + (1 : Int32))) (lv' := [(5, .int (y5 + (1 : Int32))), (2, .int (y2 + ((v_papers y3.toNatClampNeg) * (v_worths y5.toNatClampNeg)))), (0, .ref a_this), (1, .int y1), (3, .int y3), (4, .int y4)]) hx hb dX11_worthOf_58 hl (k := 5) rfl rfl (by decide) rfl (fun ls hl => ?_)
        refine lv_goto (tgt := 28) hx hb dX11_worthOf_61 (by decide) ?_
        exact ih (y2 + ((v_papers y3.toNatClampNeg) * (v_worths y5.toNatClampNeg))) (y5 + (1 : Int32)) _ _ _ _ hf K hP hD hS (lv_sub hl [2, 3, 1, 4, 5, 0] rfl)
set_option maxHeartbeats 4000000 in
set_option maxRecDepth 100000 in
theorem wl_X11_worthOf_4 {p : Program} {l : Launch} {e : Env} {s : State} {m : MethodId} {args : Array Value} {below : List Frame} {meth : Method} {c : Code} {A : Nat → Prop} {Q : State → Prop} {D : va_G} {cyI cyJ cyZ : ClassId} {a_this a_sets a_papers a_worths a_sign a_hallSign a_chosen a_upper a_lower : Nat} {y1 : Int32} {v_heaps : Int32} {v_seats : Int32} {v_signs : Int32} {v_hallMany : Int32} {v_chosenSet : Int32} {v_paidSeats : Int32} {v_rhoUp : Int64} {v_rhoBy : Int64} {v_breachGroup : Int32} {v_papers : Nat → Int32} {v_sets : Nat → Int32} {v_worths : Nat → Int32} (C : kC p s m args c cX11_worthOf 6 RX11 wsX11_worthOf D (kTy cyI cyJ cyZ) A) :
    ∀ (n : Nat) (y2 : Int32) (y3 : Int32) (q : Int32) (H : Heap) (locs : List Loc) (ls : Array Slot), lp_X11_worthOf_4 y1 v_heaps v_papers v_sets v_worths n y2 y3 = some q → (∀ (H : Heap) (locs : List Loc) (ls : Array Slot), va_P D vwCl (wd_X11_worthOf cyI cyJ cyZ a_this a_sets a_papers a_worths a_sign a_hallSign a_chosen a_upper a_lower v_heaps v_seats v_signs v_hallMany v_chosenSet v_paidSeats v_rhoUp v_rhoBy v_breachGroup v_papers v_sets v_worths) H → va_D A (wd_X11_worthOf cyI cyJ cyZ a_this a_sets a_papers a_worths a_sign a_hallSign a_chosen a_upper a_lower v_heaps v_seats v_signs v_hallMany v_chosenSet v_paidSeats v_rhoUp v_rhoBy v_breachGroup v_papers v_sets v_worths) → va_S A s.heap H locs → lv_has ls 6 [(2, .int q)] → W p l e rm_X11_worthOf s m args below meth c H locs 0 0 Q (F0 m 70 ls [])) → va_P D vwCl (wd_X11_worthOf cyI cyJ cyZ a_this a_sets a_papers a_worths a_sign a_hallSign a_chosen a_upper a_lower v_heaps v_seats v_signs v_hallMany v_chosenSet v_paidSeats v_rhoUp v_rhoBy v_breachGroup v_papers v_sets v_worths) H → va_D A (wd_X11_worthOf cyI cyJ cyZ a_this a_sets a_papers a_worths a_sign a_hallSign a_chosen a_upper a_lower v_heaps v_seats v_signs v_hallMany v_chosenSet v_paidSeats v_rhoUp v_rhoBy v_breachGroup v_papers v_sets v_worths) → va_S A s.heap H locs → lv_has ls 6 [(0, .ref a_this), (1, .int y1), (2, .int y2), (3, .int y3)] → W p l e rm_X11_worthOf s m args below meth c H locs 0 0 Q (F0 m 4 ls []) := by
  obtain ⟨hx, hb, hml, hown, hts, hK, hA⟩ := id C
  have iX11 : ∀ w ∈ u_ws RX11 TX11 17, w ∈ wsX11_worthOf := by decide +kernel
  have fl7 := hts (.fieldLink RX11 7 "FairSeatsModel" "sets" "[I") (by decide +kernel)
  have fl39 := hts (.fieldLink RX11 39 "FairSeatsModel" "heaps" "I") (by decide +kernel)
  have cw60 := va_cwS (R := rm_X11_worthOf) (rm := rm_X11_bits) 1 hts gX11_worthOf_X11_bits rfl rfl rfl (by decide +kernel) ⟨Nat.le_of_ble_eq_true rfl, Nat.le_of_ble_eq_true rfl⟩
  intro n
  induction n with
  | zero =>
    intro y2 y3 q H locs ls hf K hP hD hS hl
    rw [lp_X11_worthOf_4] at hf
    cases hf
  | succ n ih =>
    intro y2 y3 q H locs ls hf K hP hD hS hl
    rw [lp_X11_worthOf_4] at hf
    refine lv_iload_n hx hb dX11_worthOf_4 rfl (lv_at hl 3 rfl) ?_
    refine lv_aload_n hx hb dX11_worthOf_5 rfl (lv_at hl 0 rfl) ?_
    refine va_get (D := D) (ci := 10) (v := .int v_heaps) (C := RX11) (T := TX11) (N := 17) hx hb hts iX11 hown hK hP 0 rfl rfl 0 (by decide) fl39 (fun _ h9 => h9) rfl dX11_worthOf_6 ?_
    refine lv_icmp_ge (tgt := 70) hx hb dX11_worthOf_9 (by decide) (fun c1 => ?_) (fun c1 => ?_)
    · have hf := ob_pos c1 hf
      obtain rfl := Option.some.inj hf
      exact K _ _ _ hP hD hS (lv_sub hl [2] rfl)
    · have hf := ob_neg c1 hf
      refine lv_iload_n hx hb dX11_worthOf_12 rfl (lv_at hl 1 rfl) ?_
      refine lv_aload_n hx hb dX11_worthOf_13 rfl (lv_at hl 0 rfl) ?_
      refine va_get (D := D) (ci := 10) (v := .ref a_sets) (C := RX11) (T := TX11) (N := 17) hx hb hts iX11 hown hK hP 0 rfl rfl 1 (by decide) fl7 (fun _ h9 => h9) rfl dX11_worthOf_14 ?_
      refine lv_iload_n hx hb dX11_worthOf_17 rfl (lv_at hl 3 rfl) ?_
      obtain ⟨h2, hf⟩ := og_in hf
      refine va_iald hx hb hK hP 2 0 rfl rfl h2 dX11_worthOf_18 ?_
      refine lv_iand hx hb dX11_worthOf_19 ?_
      obtain ⟨q3, hq3, hf⟩ := ob_bind hf
      refine k_Si (wo := (wd_X11_worthOf cyI cyJ cyZ a_this a_sets a_papers a_worths a_sign a_hallSign a_chosen a_upper a_lower v_heaps v_seats v_signs v_hallMany v_chosenSet v_paidSeats v_rhoUp v_rhoBy v_breachGroup v_papers v_sets v_worths)) (As := [.int (y1 &&& (v_sets y3.toNatClampNeg))]) (rest := []) C (c_X11_bits l D cyI cyJ cyZ   (y1 &&& (v_sets y3.toNatClampNeg)) q3 hq3) cw60 hP hD hS [] [0, 1, 2, 3] [0, 1, 2, 3] rfl rfl rfl (by decide) rfl rfl hl.1 (Nat.le_of_ble_eq_true rfl) dX11_worthOf_20 ⟨Nat.zero_le _, Nat.zero_le _⟩ (fun H locs hP hD hS => ?_)
      refine lv_istore (lv' := [(4, .int q3), (0, .ref a_this), (1, .int y1), (2, .int y2), (3, .int y3)]) hx hb dX11_worthOf_23 hl (by decide) rfl (fun ls hl => ?_)
      refine lv_iconst (v := (0 : Int32)) hx hb dX11_worthOf_25 (by decide) ?_
      refine lv_istore (lv' := [(5, .int (0 : Int32)), (4, .int q3), (0, .ref a_this), (1, .int y1), (2, .int y2), (3, .int y3)]) hx hb dX11_worthOf_26 hl (by decide) rfl (fun ls hl => ?_)
      obtain ⟨q8, hq8, hf⟩ := ob_bind hf
      refine wl_X11_worthOf_28 C FU y2 (0 : Int32) _ _ _ _ hq8 (fun H locs ls hP hD hS hl => ?_) hP hD hS (lv_sub hl [2, 3, 4, 5, 1, 0] rfl)
      refine lv_iinc (v := (y3 + (1 : Int32))) (lv' := [(3, .int (y3 + (1 : Int32))), (0, .ref a_this), (1, .int y1), (2, .int q8)]) hx hb dX11_worthOf_64 hl (k := 3) rfl rfl (by decide) rfl (fun ls hl => ?_)
      refine lv_goto (tgt := 4) hx hb dX11_worthOf_67 (by decide) ?_
      exact ih q8 (y3 + (1 : Int32)) _ _ _ _ hf K hP hD hS (lv_sub hl [1, 2, 3, 0] rfl)
set_option maxHeartbeats 4000000 in
set_option maxRecDepth 100000 in
theorem c_X11_worthOf (l : Launch) (D : va_G) (cyI cyJ cyZ : ClassId) (a_this a_sets a_papers a_worths a_sign a_hallSign a_chosen a_upper a_lower : Nat) (v_heaps : Int32) (v_seats : Int32) (v_signs : Int32) (v_hallMany : Int32) (v_chosenSet : Int32) (v_paidSeats : Int32) (v_rhoUp : Int64) (v_rhoBy : Int64) (v_breachGroup : Int32) (v_papers : Nat → Int32) (v_sets : Nat → Int32) (v_worths : Nat → Int32) (x1 : Int32) (q : Int32) (hf : f_X11_worthOf x1 v_heaps v_papers v_sets v_worths = some q) : kMi l yX11_worthOf wsX11_worthOf rm_X11_worthOf D (kTy cyI cyJ cyZ) [.ref a_this, .int x1] (wd_X11_worthOf cyI cyJ cyZ a_this a_sets a_papers a_worths a_sign a_hallSign a_chosen a_upper a_lower v_heaps v_seats v_signs v_hallMany v_chosenSet v_paidSeats v_rhoUp v_rhoBy v_breachGroup v_papers v_sets v_worths) (wd_X11_worthOf cyI cyJ cyZ a_this a_sets a_papers a_worths a_sign a_hallSign a_chosen a_upper a_lower v_heaps v_seats v_signs v_hallMany v_chosenSet v_paidSeats v_rhoUp v_rhoBy v_breachGroup v_papers v_sets v_worths) q := by
  refine kMi_of (cc := cX11_worthOf) (nL := 6) (own := RX11) (by decide) rfl rfl (Nat.le_of_ble_eq_true rfl) ?_
  intro p e s m below meth c A Q ls C hret hP hD hS hl
  have hl : lv_has ls 6 [(0, .ref a_this), (1, .int x1)] := hl
  unfold f_X11_worthOf at hf
  obtain ⟨hx, hb, hml, hown, hts, hK, hA⟩ := id C
  refine lv_iconst (v := (0 : Int32)) hx hb dX11_worthOf_0 (by decide) ?_
  refine lv_istore_n (lv' := [(2, .int (0 : Int32)), (0, .ref a_this), (1, .int x1)]) hx hb dX11_worthOf_1 rfl hl (by decide) rfl (fun ls hl => ?_)
  refine lv_iconst (v := (0 : Int32)) hx hb dX11_worthOf_2 (by decide) ?_
  refine lv_istore_n (lv' := [(3, .int (0 : Int32)), (2, .int (0 : Int32)), (0, .ref a_this), (1, .int x1)]) hx hb dX11_worthOf_3 rfl hl (by decide) rfl (fun ls hl => ?_)
  obtain ⟨q9, hq9, hf⟩ := ob_bind hf
  refine wl_X11_worthOf_4 C FU (0 : Int32) (0 : Int32) _ _ _ _ hq9 (fun H locs ls hP hD hS hl => ?_) hP hD hS (lv_sub hl [2, 3, 1, 0] rfl)
  refine lv_iload_n hx hb dX11_worthOf_70 rfl (lv_at hl 0 rfl) ?_
  obtain rfl := Option.some.inj hf
  exact hret _ _ _ _ dX11_worthOf_71 hP hD hS
abbrev rm_X11_wronged : Room := { frames := 0, cells := 0, slots := 0, locals := 0 }
abbrev wd_X11_wronged (cyI cyJ cyZ : ClassId) (a_this a_sets a_papers a_worths a_sign a_hallSign a_chosen a_upper a_lower : Nat) (v_heaps : Int32) (v_seats : Int32) (v_signs : Int32) (v_hallMany : Int32) (v_chosenSet : Int32) (v_paidSeats : Int32) (v_rhoUp : Int64) (v_rhoBy : Int64) (v_breachGroup : Int32) (v_papers : Nat → Int32) (v_sets : Nat → Int32) : va_W := [(a_this, .inr (10, [.int v_heaps, .ref a_sets, .ref a_papers, .int v_seats, .ref a_worths, .int v_signs, .ref a_sign, .int v_hallMany, .ref a_hallSign, .ref a_chosen, .int v_chosenSet, .int v_paidSeats, .ref a_upper, .ref a_lower, .long v_rhoUp, .long v_rhoBy, .int v_breachGroup])), (a_papers, .inl (cyI, 7, .inl v_papers)), (a_sets, .inl (cyI, 7, .inl v_sets))]
def lp_X11_wronged_4 (y1 : Int32) (v_heaps : Int32) (v_papers : Nat → Int32) (v_sets : Nat → Int32) : Nat → Int32 → Int32 → Option (Int32)
  | 0, _, _ => none
  | n + 1, y2, y3 => (if v_heaps ≤ y3 then some y2 else (if ob_in y3 7 = true then (if (y1 &&& (v_sets y3.toNatClampNeg)) = 0 then (if ob_in y3 7 = true then lp_X11_wronged_4 y1 v_heaps v_papers v_sets n (y2 + (v_papers y3.toNatClampNeg)) (y3 + (1 : Int32)) else none) else lp_X11_wronged_4 y1 v_heaps v_papers v_sets n (y2 + (0 : Int32)) (y3 + (1 : Int32))) else none))
def f_X11_wronged (x1 : Int32) (v_heaps : Int32) (v_papers : Nat → Int32) (v_sets : Nat → Int32) : Option (Int32) := (lp_X11_wronged_4 x1 v_heaps v_papers v_sets FU (0 : Int32) (0 : Int32)).bind (fun q5 => some q5)
set_option maxHeartbeats 4000000 in
set_option maxRecDepth 100000 in
theorem wl_X11_wronged_4 {p : Program} {l : Launch} {e : Env} {s : State} {m : MethodId} {args : Array Value} {below : List Frame} {meth : Method} {c : Code} {A : Nat → Prop} {Q : State → Prop} {D : va_G} {cyI cyJ cyZ : ClassId} {a_this a_sets a_papers a_worths a_sign a_hallSign a_chosen a_upper a_lower : Nat} {y1 : Int32} {v_heaps : Int32} {v_seats : Int32} {v_signs : Int32} {v_hallMany : Int32} {v_chosenSet : Int32} {v_paidSeats : Int32} {v_rhoUp : Int64} {v_rhoBy : Int64} {v_breachGroup : Int32} {v_papers : Nat → Int32} {v_sets : Nat → Int32} (C : kC p s m args c cX11_wronged 4 RX11 wsX11_wronged D (kTy cyI cyJ cyZ) A) :
    ∀ (n : Nat) (y2 : Int32) (y3 : Int32) (q : Int32) (H : Heap) (locs : List Loc) (ls : Array Slot), lp_X11_wronged_4 y1 v_heaps v_papers v_sets n y2 y3 = some q → (∀ (H : Heap) (locs : List Loc) (ls : Array Slot), va_P D vwCl (wd_X11_wronged cyI cyJ cyZ a_this a_sets a_papers a_worths a_sign a_hallSign a_chosen a_upper a_lower v_heaps v_seats v_signs v_hallMany v_chosenSet v_paidSeats v_rhoUp v_rhoBy v_breachGroup v_papers v_sets) H → va_D A (wd_X11_wronged cyI cyJ cyZ a_this a_sets a_papers a_worths a_sign a_hallSign a_chosen a_upper a_lower v_heaps v_seats v_signs v_hallMany v_chosenSet v_paidSeats v_rhoUp v_rhoBy v_breachGroup v_papers v_sets) → va_S A s.heap H locs → lv_has ls 4 [(2, .int q)] → W p l e rm_X11_wronged s m args below meth c H locs 0 0 Q (F0 m 42 ls [])) → va_P D vwCl (wd_X11_wronged cyI cyJ cyZ a_this a_sets a_papers a_worths a_sign a_hallSign a_chosen a_upper a_lower v_heaps v_seats v_signs v_hallMany v_chosenSet v_paidSeats v_rhoUp v_rhoBy v_breachGroup v_papers v_sets) H → va_D A (wd_X11_wronged cyI cyJ cyZ a_this a_sets a_papers a_worths a_sign a_hallSign a_chosen a_upper a_lower v_heaps v_seats v_signs v_hallMany v_chosenSet v_paidSeats v_rhoUp v_rhoBy v_breachGroup v_papers v_sets) → va_S A s.heap H locs → lv_has ls 4 [(0, .ref a_this), (1, .int y1), (2, .int y2), (3, .int y3)] → W p l e rm_X11_wronged s m args below meth c H locs 0 0 Q (F0 m 4 ls []) := by
  obtain ⟨hx, hb, hml, hown, hts, hK, hA⟩ := id C
  have iX11 : ∀ w ∈ u_ws RX11 TX11 17, w ∈ wsX11_wronged := by decide +kernel
  have fl7 := hts (.fieldLink RX11 7 "FairSeatsModel" "sets" "[I") (by decide +kernel)
  have fl13 := hts (.fieldLink RX11 13 "FairSeatsModel" "papers" "[I") (by decide +kernel)
  have fl39 := hts (.fieldLink RX11 39 "FairSeatsModel" "heaps" "I") (by decide +kernel)
  intro n
  induction n with
  | zero =>
    intro y2 y3 q H locs ls hf K hP hD hS hl
    rw [lp_X11_wronged_4] at hf
    cases hf
  | succ n ih =>
    intro y2 y3 q H locs ls hf K hP hD hS hl
    rw [lp_X11_wronged_4] at hf
    refine lv_iload_n hx hb dX11_wronged_4 rfl (lv_at hl 3 rfl) ?_
    refine lv_aload_n hx hb dX11_wronged_5 rfl (lv_at hl 0 rfl) ?_
    refine va_get (D := D) (ci := 10) (v := .int v_heaps) (C := RX11) (T := TX11) (N := 17) hx hb hts iX11 hown hK hP 0 rfl rfl 0 (by decide) fl39 (fun _ h9 => h9) rfl dX11_wronged_6 ?_
    refine lv_icmp_ge (tgt := 42) hx hb dX11_wronged_9 (by decide) (fun c1 => ?_) (fun c1 => ?_)
    · have hf := ob_pos c1 hf
      obtain rfl := Option.some.inj hf
      exact K _ _ _ hP hD hS (lv_sub hl [2] rfl)
    · have hf := ob_neg c1 hf
      refine lv_iload_n hx hb dX11_wronged_12 rfl (lv_at hl 2 rfl) ?_
      refine lv_iload_n hx hb dX11_wronged_13 rfl (lv_at hl 1 rfl) ?_
      refine lv_aload_n hx hb dX11_wronged_14 rfl (lv_at hl 0 rfl) ?_
      refine va_get (D := D) (ci := 10) (v := .ref a_sets) (C := RX11) (T := TX11) (N := 17) hx hb hts iX11 hown hK hP 0 rfl rfl 1 (by decide) fl7 (fun _ h9 => h9) rfl dX11_wronged_15 ?_
      refine lv_iload_n hx hb dX11_wronged_18 rfl (lv_at hl 3 rfl) ?_
      obtain ⟨h2, hf⟩ := og_in hf
      refine va_iald hx hb hK hP 2 0 rfl rfl h2 dX11_wronged_19 ?_
      refine lv_iand hx hb dX11_wronged_20 ?_
      refine lv_if_ne (tgt := 33) hx hb dX11_wronged_21 (by decide) (fun c3 => ?_) (fun c3 => ?_)
      · have hf := ob_neg c3 hf
        refine lv_iconst (v := (0 : Int32)) hx hb dX11_wronged_33 (by decide) ?_
        refine lv_iadd hx hb dX11_wronged_34 ?_
        refine lv_istore_n (lv' := [(2, .int (y2 + (0 : Int32))), (0, .ref a_this), (1, .int y1), (3, .int y3)]) hx hb dX11_wronged_35 rfl hl (by decide) rfl (fun ls hl => ?_)
        refine lv_iinc (v := (y3 + (1 : Int32))) (lv' := [(3, .int (y3 + (1 : Int32))), (2, .int (y2 + (0 : Int32))), (0, .ref a_this), (1, .int y1)]) hx hb dX11_wronged_36 hl (k := 3) rfl rfl (by decide) rfl (fun ls hl => ?_)
        refine lv_goto (tgt := 4) hx hb dX11_wronged_39 (by decide) ?_
        exact ih (y2 + (0 : Int32)) (y3 + (1 : Int32)) _ _ _ _ hf K hP hD hS (lv_sub hl [2, 3, 1, 0] rfl)
      · have hf := ob_pos c3 hf
        refine lv_aload_n hx hb dX11_wronged_24 rfl (lv_at hl 0 rfl) ?_
        refine va_get (D := D) (ci := 10) (v := .ref a_papers) (C := RX11) (T := TX11) (N := 17) hx hb hts iX11 hown hK hP 0 rfl rfl 2 (by decide) fl13 (fun _ h9 => h9) rfl dX11_wronged_25 ?_
        refine lv_iload_n hx hb dX11_wronged_28 rfl (lv_at hl 3 rfl) ?_
        obtain ⟨h4, hf⟩ := og_in hf
        refine va_iald hx hb hK hP 1 0 rfl rfl h4 dX11_wronged_29 ?_
        refine lv_goto (tgt := 34) hx hb dX11_wronged_30 (by decide) ?_
        refine lv_iadd hx hb dX11_wronged_34 ?_
        refine lv_istore_n (lv' := [(2, .int (y2 + (v_papers y3.toNatClampNeg))), (0, .ref a_this), (1, .int y1), (3, .int y3)]) hx hb dX11_wronged_35 rfl hl (by decide) rfl (fun ls hl => ?_)
        refine lv_iinc (v := (y3 + (1 : Int32))) (lv' := [(3, .int (y3 + (1 : Int32))), (2, .int (y2 + (v_papers y3.toNatClampNeg))), (0, .ref a_this), (1, .int y1)]) hx hb dX11_wronged_36 hl (k := 3) rfl rfl (by decide) rfl (fun ls hl => ?_)
        refine lv_goto (tgt := 4) hx hb dX11_wronged_39 (by decide) ?_
        exact ih (y2 + (v_papers y3.toNatClampNeg)) (y3 + (1 : Int32)) _ _ _ _ hf K hP hD hS (lv_sub hl [2, 3, 1, 0] rfl)
set_option maxHeartbeats 4000000 in
set_option maxRecDepth 100000 in
theorem c_X11_wronged (l : Launch) (D : va_G) (cyI cyJ cyZ : ClassId) (a_this a_sets a_papers a_worths a_sign a_hallSign a_chosen a_upper a_lower : Nat) (v_heaps : Int32) (v_seats : Int32) (v_signs : Int32) (v_hallMany : Int32) (v_chosenSet : Int32) (v_paidSeats : Int32) (v_rhoUp : Int64) (v_rhoBy : Int64) (v_breachGroup : Int32) (v_papers : Nat → Int32) (v_sets : Nat → Int32) (x1 : Int32) (q : Int32) (hf : f_X11_wronged x1 v_heaps v_papers v_sets = some q) : kMi l yX11_wronged wsX11_wronged rm_X11_wronged D (kTy cyI cyJ cyZ) [.ref a_this, .int x1] (wd_X11_wronged cyI cyJ cyZ a_this a_sets a_papers a_worths a_sign a_hallSign a_chosen a_upper a_lower v_heaps v_seats v_signs v_hallMany v_chosenSet v_paidSeats v_rhoUp v_rhoBy v_breachGroup v_papers v_sets) (wd_X11_wronged cyI cyJ cyZ a_this a_sets a_papers a_worths a_sign a_hallSign a_chosen a_upper a_lower v_heaps v_seats v_signs v_hallMany v_chosenSet v_paidSeats v_rhoUp v_rhoBy v_breachGroup v_papers v_sets) q := by
  refine kMi_of (cc := cX11_wronged) (nL := 4) (own := RX11) (by decide) rfl rfl (Nat.le_of_ble_eq_true rfl) ?_
  intro p e s m below meth c A Q ls C hret hP hD hS hl
  have hl : lv_has ls 4 [(0, .ref a_this), (1, .int x1)] := hl
  unfold f_X11_wronged at hf
  obtain ⟨hx, hb, hml, hown, hts, hK, hA⟩ := id C
  refine lv_iconst (v := (0 : Int32)) hx hb dX11_wronged_0 (by decide) ?_
  refine lv_istore_n (lv' := [(2, .int (0 : Int32)), (0, .ref a_this), (1, .int x1)]) hx hb dX11_wronged_1 rfl hl (by decide) rfl (fun ls hl => ?_)
  refine lv_iconst (v := (0 : Int32)) hx hb dX11_wronged_2 (by decide) ?_
  refine lv_istore_n (lv' := [(3, .int (0 : Int32)), (2, .int (0 : Int32)), (0, .ref a_this), (1, .int x1)]) hx hb dX11_wronged_3 rfl hl (by decide) rfl (fun ls hl => ?_)
  obtain ⟨q5, hq5, hf⟩ := ob_bind hf
  refine wl_X11_wronged_4 C FU (0 : Int32) (0 : Int32) _ _ _ _ hq5 (fun H locs ls hP hD hS hl => ?_) hP hD hS (lv_sub hl [2, 3, 1, 0] rfl)
  refine lv_iload_n hx hb dX11_wronged_42 rfl (lv_at hl 0 rfl) ?_
  obtain rfl := Option.some.inj hf
  exact hret _ _ _ _ dX11_wronged_43 hP hD hS
abbrev rm_X11_isCommittee : Room := { frames := 1, cells := 0, slots := 0, locals := 22 }
abbrev wd_X11_isCommittee (cyI cyJ cyZ : ClassId) (a_this a_sets a_papers a_worths a_sign a_hallSign a_chosen a_upper a_lower : Nat) (v_heaps : Int32) (v_seats : Int32) (v_signs : Int32) (v_hallMany : Int32) (v_chosenSet : Int32) (v_paidSeats : Int32) (v_rhoUp : Int64) (v_rhoBy : Int64) (v_breachGroup : Int32) : va_W := [(a_this, .inr (10, [.int v_heaps, .ref a_sets, .ref a_papers, .int v_seats, .ref a_worths, .int v_signs, .ref a_sign, .int v_hallMany, .ref a_hallSign, .ref a_chosen, .int v_chosenSet, .int v_paidSeats, .ref a_upper, .ref a_lower, .long v_rhoUp, .long v_rhoBy, .int v_breachGroup]))]
def f_X11_isCommittee (x1 : Int32) (v_seats : Int32) : Option (Int32) := (f_X11_in x1 (0 : Int32) (255 : Int32)).bind (fun q1 => (if q1 = 0 then some (0 : Int32) else (f_X11_bits x1).bind (fun q3 => (if q3 = v_seats then some (1 : Int32) else some (0 : Int32)))))
set_option maxHeartbeats 4000000 in
set_option maxRecDepth 100000 in
theorem c_X11_isCommittee (l : Launch) (D : va_G) (cyI cyJ cyZ : ClassId) (a_this a_sets a_papers a_worths a_sign a_hallSign a_chosen a_upper a_lower : Nat) (v_heaps : Int32) (v_seats : Int32) (v_signs : Int32) (v_hallMany : Int32) (v_chosenSet : Int32) (v_paidSeats : Int32) (v_rhoUp : Int64) (v_rhoBy : Int64) (v_breachGroup : Int32) (x1 : Int32) (q : Int32) (hf : f_X11_isCommittee x1 v_seats = some q) : kMz l yX11_isCommittee wsX11_isCommittee rm_X11_isCommittee D (kTy cyI cyJ cyZ) [.ref a_this, .int x1] (wd_X11_isCommittee cyI cyJ cyZ a_this a_sets a_papers a_worths a_sign a_hallSign a_chosen a_upper a_lower v_heaps v_seats v_signs v_hallMany v_chosenSet v_paidSeats v_rhoUp v_rhoBy v_breachGroup) (wd_X11_isCommittee cyI cyJ cyZ a_this a_sets a_papers a_worths a_sign a_hallSign a_chosen a_upper a_lower v_heaps v_seats v_signs v_hallMany v_chosenSet v_paidSeats v_rhoUp v_rhoBy v_breachGroup) q := by
  refine kMz_of (cc := cX11_isCommittee) (nL := 2) (own := RX11) (by decide) rfl rfl (Nat.le_of_ble_eq_true rfl) ?_
  intro p e s m below meth c A Q ls C hret hP hD hS hl
  have hl : lv_has ls 2 [(0, .ref a_this), (1, .int x1)] := hl
  unfold f_X11_isCommittee at hf
  obtain ⟨hx, hb, hml, hown, hts, hK, hA⟩ := id C
  have iX11 : ∀ w ∈ u_ws RX11 TX11 17, w ∈ wsX11_isCommittee := by decide +kernel
  have fl16 := hts (.fieldLink RX11 16 "FairSeatsModel" "seats" "I") (by decide +kernel)
  have cw42 := va_cwS (R := rm_X11_isCommittee) (rm := rm_X11_in) 3 hts gX11_isCommittee_X11_in rfl rfl rfl (by decide +kernel) ⟨Nat.le_of_ble_eq_true rfl, Nat.le_of_ble_eq_true rfl⟩
  have cw60 := va_cwS (R := rm_X11_isCommittee) (rm := rm_X11_bits) 1 hts gX11_isCommittee_X11_bits rfl rfl rfl (by decide +kernel) ⟨Nat.le_of_ble_eq_true rfl, Nat.le_of_ble_eq_true rfl⟩
  refine lv_iload_n hx hb dX11_isCommittee_0 rfl (lv_at hl 1 rfl) ?_
  refine lv_iconst (v := (0 : Int32)) hx hb dX11_isCommittee_1 (by decide) ?_
  refine lv_sipush (v := (255 : Int32)) hx hb dX11_isCommittee_2 (by decide) ?_
  obtain ⟨q1, hq1, hf⟩ := ob_bind hf
  refine k_Sz (wo := (wd_X11_isCommittee cyI cyJ cyZ a_this a_sets a_papers a_worths a_sign a_hallSign a_chosen a_upper a_lower v_heaps v_seats v_signs v_hallMany v_chosenSet v_paidSeats v_rhoUp v_rhoBy v_breachGroup)) (As := [.int x1, .int (0 : Int32), .int (255 : Int32)]) (rest := []) C (c_X11_in l D cyI cyJ cyZ   x1 (0 : Int32) (255 : Int32) q1 hq1) cw42 hP hD hS [] [0] [0] rfl rfl rfl (by decide) rfl rfl hl.1 (Nat.le_of_ble_eq_true rfl) dX11_isCommittee_5 ⟨Nat.zero_le _, Nat.zero_le _⟩ (fun H locs zq1 hP hD hS => ?_)
  refine lv_if_eq (tgt := 26) hx hb dX11_isCommittee_8 (by decide) (fun c2 => ?_) (fun c2 => ?_)
  · have hf := ob_pos c2 hf
    refine lv_iconst (v := (0 : Int32)) hx hb dX11_isCommittee_26 (by decide) ?_
    obtain rfl := Option.some.inj hf
    exact hret _ _ _ _ narrow_b0 dX11_isCommittee_27 hP hD hS
  · have hf := ob_neg c2 hf
    refine lv_iload_n hx hb dX11_isCommittee_11 rfl (lv_at hl 1 rfl) ?_
    obtain ⟨q3, hq3, hf⟩ := ob_bind hf
    refine k_Si (wo := (wd_X11_isCommittee cyI cyJ cyZ a_this a_sets a_papers a_worths a_sign a_hallSign a_chosen a_upper a_lower v_heaps v_seats v_signs v_hallMany v_chosenSet v_paidSeats v_rhoUp v_rhoBy v_breachGroup)) (As := [.int x1]) (rest := []) C (c_X11_bits l D cyI cyJ cyZ   x1 q3 hq3) cw60 hP hD hS [] [0] [0] rfl rfl rfl (by decide) rfl rfl hl.1 (Nat.le_of_ble_eq_true rfl) dX11_isCommittee_12 ⟨Nat.zero_le _, Nat.zero_le _⟩ (fun H locs hP hD hS => ?_)
    refine lv_aload_n hx hb dX11_isCommittee_15 rfl (lv_at hl 0 rfl) ?_
    refine va_get (D := D) (ci := 10) (v := .int v_seats) (C := RX11) (T := TX11) (N := 17) hx hb hts iX11 hown hK hP 0 rfl rfl 3 (by decide) fl16 (fun _ h9 => h9) rfl dX11_isCommittee_16 ?_
    refine lv_icmp_ne (tgt := 26) hx hb dX11_isCommittee_19 (by decide) (fun c4 => ?_) (fun c4 => ?_)
    · have hf := ob_neg c4 hf
      refine lv_iconst (v := (0 : Int32)) hx hb dX11_isCommittee_26 (by decide) ?_
      obtain rfl := Option.some.inj hf
      exact hret _ _ _ _ narrow_b0 dX11_isCommittee_27 hP hD hS
    · have hf := ob_pos c4 hf
      refine lv_iconst (v := (1 : Int32)) hx hb dX11_isCommittee_22 (by decide) ?_
      refine lv_goto (tgt := 27) hx hb dX11_isCommittee_23 (by decide) ?_
      obtain rfl := Option.some.inj hf
      exact hret _ _ _ _ narrow_b1 dX11_isCommittee_27 hP hD hS
abbrev rm_X11_of : Room := { frames := 2, cells := 0, slots := 0, locals := 49 }
abbrev wd_X11_of (cyI cyJ cyZ : ClassId) (a_this a_sets a_papers a_worths a_sign a_hallSign a_chosen a_upper a_lower : Nat) (v_heaps : Int32) (v_seats : Int32) (v_signs : Int32) (v_hallMany : Int32) (v_chosenSet : Int32) (v_paidSeats : Int32) (v_rhoUp : Int64) (v_rhoBy : Int64) (v_breachGroup : Int32) (v_hallSign : Nat → Int32) (v_papers : Nat → Int32) (v_sets : Nat → Int32) (v_worths : Nat → Int32) : va_W := [(a_this, .inr (10, [.int v_heaps, .ref a_sets, .ref a_papers, .int v_seats, .ref a_worths, .int v_signs, .ref a_sign, .int v_hallMany, .ref a_hallSign, .ref a_chosen, .int v_chosenSet, .int v_paidSeats, .ref a_upper, .ref a_lower, .long v_rhoUp, .long v_rhoBy, .int v_breachGroup])), (a_hallSign, .inl (cyI, 40, .inl v_hallSign)), (a_papers, .inl (cyI, 7, .inl v_papers)), (a_sets, .inl (cyI, 7, .inl v_sets)), (a_worths, .inl (cyI, 4, .inl v_worths))]
def f_X11_of (x1 : Int32) (x2 : Int32) (v_heaps : Int32) (v_seats : Int32) (v_hallMany : Int32) (v_hallSign : Nat → Int32) (v_papers : Nat → Int32) (v_sets : Nat → Int32) (v_worths : Nat → Int32) : Option (Int32) := (f_X11_isCommittee x1 v_seats).bind (fun q1 => (if q1 = 0 then some (-2 : Int32) else (f_X11_in x2 (0 : Int32) (3 : Int32)).bind (fun q3 => (if q3 = 0 then some (-2 : Int32) else (if x2 = 0 then (f_X11_barOf x1 v_hallMany v_hallSign).bind (fun q11 => (if 0 ≤ q11 then some (0 : Int32) else some (1 : Int32))) else (if x2 = (1 : Int32) then (f_X11_worthOf x1 v_heaps v_papers v_sets v_worths).bind (fun q10 => some q10) else (if x2 = (2 : Int32) then (f_X11_wronged x1 v_heaps v_papers v_sets).bind (fun q9 => some q9) else (f_X11_barOf x1 v_hallMany v_hallSign).bind (fun q8 => some q8))))))))
set_option maxHeartbeats 4000000 in
set_option maxRecDepth 100000 in
theorem c_X11_of (l : Launch) (D : va_G) (cyI cyJ cyZ : ClassId) (a_this a_sets a_papers a_worths a_sign a_hallSign a_chosen a_upper a_lower : Nat) (v_heaps : Int32) (v_seats : Int32) (v_signs : Int32) (v_hallMany : Int32) (v_chosenSet : Int32) (v_paidSeats : Int32) (v_rhoUp : Int64) (v_rhoBy : Int64) (v_breachGroup : Int32) (v_hallSign : Nat → Int32) (v_papers : Nat → Int32) (v_sets : Nat → Int32) (v_worths : Nat → Int32) (x1 : Int32) (x2 : Int32) (q : Int32) (hf : f_X11_of x1 x2 v_heaps v_seats v_hallMany v_hallSign v_papers v_sets v_worths = some q) : kMi l yX11_of wsX11_of rm_X11_of D (kTy cyI cyJ cyZ) [.ref a_this, .int x1, .int x2] (wd_X11_of cyI cyJ cyZ a_this a_sets a_papers a_worths a_sign a_hallSign a_chosen a_upper a_lower v_heaps v_seats v_signs v_hallMany v_chosenSet v_paidSeats v_rhoUp v_rhoBy v_breachGroup v_hallSign v_papers v_sets v_worths) (wd_X11_of cyI cyJ cyZ a_this a_sets a_papers a_worths a_sign a_hallSign a_chosen a_upper a_lower v_heaps v_seats v_signs v_hallMany v_chosenSet v_paidSeats v_rhoUp v_rhoBy v_breachGroup v_hallSign v_papers v_sets v_worths) q := by
  refine kMi_of (cc := cX11_of) (nL := 3) (own := RX11) (by decide) rfl rfl (Nat.le_of_ble_eq_true rfl) ?_
  intro p e s m below meth c A Q ls C hret hP hD hS hl
  have hl : lv_has ls 3 [(0, .ref a_this), (1, .int x1), (2, .int x2)] := hl
  unfold f_X11_of at hf
  obtain ⟨hx, hb, hml, hown, hts, hK, hA⟩ := id C
  have cw42 := va_cwS (R := rm_X11_of) (rm := rm_X11_in) 3 hts gX11_of_X11_in rfl rfl rfl (by decide +kernel) ⟨Nat.le_of_ble_eq_true rfl, Nat.le_of_ble_eq_true rfl⟩
  have cw64 := cwV (R := rm_X11_of) (rm := rm_X11_isCommittee) 1 hts gX11_of_X11_isCommittee rfl rfl rfl (by decide +kernel) ⟨Nat.le_of_ble_eq_true rfl, Nat.le_of_ble_eq_true rfl⟩
  have cw67 := cwV (R := rm_X11_of) (rm := rm_X11_barOf) 1 hts gX11_of_X11_barOf rfl rfl rfl (by decide +kernel) ⟨Nat.le_of_ble_eq_true rfl, Nat.le_of_ble_eq_true rfl⟩
  have cw70 := cwV (R := rm_X11_of) (rm := rm_X11_worthOf) 1 hts gX11_of_X11_worthOf rfl rfl rfl (by decide +kernel) ⟨Nat.le_of_ble_eq_true rfl, Nat.le_of_ble_eq_true rfl⟩
  have cw73 := cwV (R := rm_X11_of) (rm := rm_X11_wronged) 1 hts gX11_of_X11_wronged rfl rfl rfl (by decide +kernel) ⟨Nat.le_of_ble_eq_true rfl, Nat.le_of_ble_eq_true rfl⟩
  refine lv_aload_n hx hb dX11_of_0 rfl (lv_at hl 0 rfl) ?_
  refine lv_iload_n hx hb dX11_of_1 rfl (lv_at hl 1 rfl) ?_
  obtain ⟨q1, hq1, hf⟩ := ob_bind hf
  refine k_Vz (wo := (wd_X11_of cyI cyJ cyZ a_this a_sets a_papers a_worths a_sign a_hallSign a_chosen a_upper a_lower v_heaps v_seats v_signs v_hallMany v_chosenSet v_paidSeats v_rhoUp v_rhoBy v_breachGroup v_hallSign v_papers v_sets v_worths)) (As := [.int x1]) (rest := []) C (c_X11_isCommittee l D cyI cyJ cyZ a_this a_sets a_papers a_worths a_sign a_hallSign a_chosen a_upper a_lower v_heaps v_seats v_signs v_hallMany v_chosenSet v_paidSeats v_rhoUp v_rhoBy v_breachGroup x1 q1 hq1) cw64 hP hD hS [0] [1, 2, 3, 4] [4, 0, 1, 2, 3] rfl rfl rfl (by decide) 0 (ci := 10) rfl rfl rfl rfl rfl hl.1 (Nat.le_of_ble_eq_true rfl) dX11_of_2 ⟨Nat.zero_le _, Nat.zero_le _⟩ (fun H locs zq1 hP hD hS => ?_)
  refine lv_if_eq (tgt := 17) hx hb dX11_of_5 (by decide) (fun c2 => ?_) (fun c2 => ?_)
  · have hf := ob_pos c2 hf
    refine lv_bipush (v := (-2 : Int32)) hx hb dX11_of_17 (by decide) ?_
    obtain rfl := Option.some.inj hf
    exact hret _ _ _ _ dX11_of_19 hP hD hS
  · have hf := ob_neg c2 hf
    refine lv_iload_n hx hb dX11_of_8 rfl (lv_at hl 2 rfl) ?_
    refine lv_iconst (v := (0 : Int32)) hx hb dX11_of_9 (by decide) ?_
    refine lv_iconst (v := (3 : Int32)) hx hb dX11_of_10 (by decide) ?_
    obtain ⟨q3, hq3, hf⟩ := ob_bind hf
    refine k_Sz (wo := (wd_X11_of cyI cyJ cyZ a_this a_sets a_papers a_worths a_sign a_hallSign a_chosen a_upper a_lower v_heaps v_seats v_signs v_hallMany v_chosenSet v_paidSeats v_rhoUp v_rhoBy v_breachGroup v_hallSign v_papers v_sets v_worths)) (As := [.int x2, .int (0 : Int32), .int (3 : Int32)]) (rest := []) C (c_X11_in l D cyI cyJ cyZ   x2 (0 : Int32) (3 : Int32) q3 hq3) cw42 hP hD hS [] [0, 1, 2, 3, 4] [0, 1, 2, 3, 4] rfl rfl rfl (by decide) rfl rfl hl.1 (Nat.le_of_ble_eq_true rfl) dX11_of_11 ⟨Nat.zero_le _, Nat.zero_le _⟩ (fun H locs zq3 hP hD hS => ?_)
    refine lv_if_ne (tgt := 20) hx hb dX11_of_14 (by decide) (fun c4 => ?_) (fun c4 => ?_)
    · have hf := ob_neg c4 hf
      refine lv_iload_n hx hb dX11_of_20 rfl (lv_at hl 2 rfl) ?_
      refine lv_if_ne (tgt := 40) hx hb dX11_of_21 (by decide) (fun c5 => ?_) (fun c5 => ?_)
      · have hf := ob_neg c5 hf
        refine lv_iload_n hx hb dX11_of_40 rfl (lv_at hl 2 rfl) ?_
        refine lv_iconst (v := (1 : Int32)) hx hb dX11_of_41 (by decide) ?_
        refine lv_icmp_ne (tgt := 53) hx hb dX11_of_42 (by decide) (fun c6 => ?_) (fun c6 => ?_)
        · have hf := ob_neg c6 hf
          refine lv_iload_n hx hb dX11_of_53 rfl (lv_at hl 2 rfl) ?_
          refine lv_iconst (v := (2 : Int32)) hx hb dX11_of_54 (by decide) ?_
          refine lv_icmp_ne (tgt := 66) hx hb dX11_of_55 (by decide) (fun c7 => ?_) (fun c7 => ?_)
          · have hf := ob_neg c7 hf
            refine lv_aload_n hx hb dX11_of_66 rfl (lv_at hl 0 rfl) ?_
            refine lv_iload_n hx hb dX11_of_67 rfl (lv_at hl 1 rfl) ?_
            obtain ⟨q8, hq8, hf⟩ := ob_bind hf
            refine k_Vi (wo := (wd_X11_of cyI cyJ cyZ a_this a_sets a_papers a_worths a_sign a_hallSign a_chosen a_upper a_lower v_heaps v_seats v_signs v_hallMany v_chosenSet v_paidSeats v_rhoUp v_rhoBy v_breachGroup v_hallSign v_papers v_sets v_worths)) (As := [.int x1]) (rest := []) C (c_X11_barOf l D cyI cyJ cyZ a_this a_sets a_papers a_worths a_sign a_hallSign a_chosen a_upper a_lower v_heaps v_seats v_signs v_hallMany v_chosenSet v_paidSeats v_rhoUp v_rhoBy v_breachGroup v_hallSign x1 q8 hq8) cw67 hP hD hS [0, 1] [2, 3, 4] [3, 4, 0, 1, 2] rfl rfl rfl (by decide) 0 (ci := 10) rfl rfl rfl rfl rfl hl.1 (Nat.le_of_ble_eq_true rfl) dX11_of_68 ⟨Nat.zero_le _, Nat.zero_le _⟩ (fun H locs hP hD hS => ?_)
            obtain rfl := Option.some.inj hf
            exact hret _ _ _ _ dX11_of_71 hP hD hS
          · have hf := ob_pos c7 hf
            refine lv_aload_n hx hb dX11_of_58 rfl (lv_at hl 0 rfl) ?_
            refine lv_iload_n hx hb dX11_of_59 rfl (lv_at hl 1 rfl) ?_
            obtain ⟨q9, hq9, hf⟩ := ob_bind hf
            refine k_Vi (wo := (wd_X11_of cyI cyJ cyZ a_this a_sets a_papers a_worths a_sign a_hallSign a_chosen a_upper a_lower v_heaps v_seats v_signs v_hallMany v_chosenSet v_paidSeats v_rhoUp v_rhoBy v_breachGroup v_hallSign v_papers v_sets v_worths)) (As := [.int x1]) (rest := []) C (c_X11_wronged l D cyI cyJ cyZ a_this a_sets a_papers a_worths a_sign a_hallSign a_chosen a_upper a_lower v_heaps v_seats v_signs v_hallMany v_chosenSet v_paidSeats v_rhoUp v_rhoBy v_breachGroup v_papers v_sets x1 q9 hq9) cw73 hP hD hS [0, 2, 3] [1, 4] [2, 0, 3, 4, 1] rfl rfl rfl (by decide) 0 (ci := 10) rfl rfl rfl rfl rfl hl.1 (Nat.le_of_ble_eq_true rfl) dX11_of_60 ⟨Nat.zero_le _, Nat.zero_le _⟩ (fun H locs hP hD hS => ?_)
            refine lv_goto (tgt := 71) hx hb dX11_of_63 (by decide) ?_
            obtain rfl := Option.some.inj hf
            exact hret _ _ _ _ dX11_of_71 hP hD hS
        · have hf := ob_pos c6 hf
          refine lv_aload_n hx hb dX11_of_45 rfl (lv_at hl 0 rfl) ?_
          refine lv_iload_n hx hb dX11_of_46 rfl (lv_at hl 1 rfl) ?_
          obtain ⟨q10, hq10, hf⟩ := ob_bind hf
          refine k_Vi (wo := (wd_X11_of cyI cyJ cyZ a_this a_sets a_papers a_worths a_sign a_hallSign a_chosen a_upper a_lower v_heaps v_seats v_signs v_hallMany v_chosenSet v_paidSeats v_rhoUp v_rhoBy v_breachGroup v_hallSign v_papers v_sets v_worths)) (As := [.int x1]) (rest := []) C (c_X11_worthOf l D cyI cyJ cyZ a_this a_sets a_papers a_worths a_sign a_hallSign a_chosen a_upper a_lower v_heaps v_seats v_signs v_hallMany v_chosenSet v_paidSeats v_rhoUp v_rhoBy v_breachGroup v_papers v_sets v_worths x1 q10 hq10) cw70 hP hD hS [0, 2, 3, 4] [1] [1, 0, 2, 3, 4] rfl rfl rfl (by decide) 0 (ci := 10) rfl rfl rfl rfl rfl hl.1 (Nat.le_of_ble_eq_true rfl) dX11_of_47 ⟨Nat.zero_le _, Nat.zero_le _⟩ (fun H locs hP hD hS => ?_)
          refine lv_goto (tgt := 71) hx hb dX11_of_50 (by decide) ?_
          obtain rfl := Option.some.inj hf
          exact hret _ _ _ _ dX11_of_71 hP hD hS
      · have hf := ob_pos c5 hf
        refine lv_aload_n hx hb dX11_of_24 rfl (lv_at hl 0 rfl) ?_
        refine lv_iload_n hx hb dX11_of_25 rfl (lv_at hl 1 rfl) ?_
        obtain ⟨q11, hq11, hf⟩ := ob_bind hf
        refine k_Vi (wo := (wd_X11_of cyI cyJ cyZ a_this a_sets a_papers a_worths a_sign a_hallSign a_chosen a_upper a_lower v_heaps v_seats v_signs v_hallMany v_chosenSet v_paidSeats v_rhoUp v_rhoBy v_breachGroup v_hallSign v_papers v_sets v_worths)) (As := [.int x1]) (rest := []) C (c_X11_barOf l D cyI cyJ cyZ a_this a_sets a_papers a_worths a_sign a_hallSign a_chosen a_upper a_lower v_heaps v_seats v_signs v_hallMany v_chosenSet v_paidSeats v_rhoUp v_rhoBy v_breachGroup v_hallSign x1 q11 hq11) cw67 hP hD hS [0, 1] [2, 3, 4] [3, 4, 0, 1, 2] rfl rfl rfl (by decide) 0 (ci := 10) rfl rfl rfl rfl rfl hl.1 (Nat.le_of_ble_eq_true rfl) dX11_of_26 ⟨Nat.zero_le _, Nat.zero_le _⟩ (fun H locs hP hD hS => ?_)
        refine lv_if_ge (tgt := 36) hx hb dX11_of_29 (by decide) (fun c12 => ?_) (fun c12 => ?_)
        · have hf := ob_pos c12 hf
          refine lv_iconst (v := (0 : Int32)) hx hb dX11_of_36 (by decide) ?_
          refine lv_goto (tgt := 71) hx hb dX11_of_37 (by decide) ?_
          obtain rfl := Option.some.inj hf
          exact hret _ _ _ _ dX11_of_71 hP hD hS
        · have hf := ob_neg c12 hf
          refine lv_iconst (v := (1 : Int32)) hx hb dX11_of_32 (by decide) ?_
          refine lv_goto (tgt := 71) hx hb dX11_of_33 (by decide) ?_
          obtain rfl := Option.some.inj hf
          exact hret _ _ _ _ dX11_of_71 hP hD hS
    · have hf := ob_pos c4 hf
      refine lv_bipush (v := (-2 : Int32)) hx hb dX11_of_17 (by decide) ?_
      obtain rfl := Option.some.inj hf
      exact hret _ _ _ _ dX11_of_19 hP hD hS
abbrev rm_X11_allPapers : Room := { frames := 0, cells := 0, slots := 0, locals := 0 }
abbrev wd_X11_allPapers (cyI cyJ cyZ : ClassId) (a_this a_sets a_papers a_worths a_sign a_hallSign a_chosen a_upper a_lower : Nat) (v_heaps : Int32) (v_seats : Int32) (v_signs : Int32) (v_hallMany : Int32) (v_chosenSet : Int32) (v_paidSeats : Int32) (v_rhoUp : Int64) (v_rhoBy : Int64) (v_breachGroup : Int32) (v_papers : Nat → Int32) : va_W := [(a_this, .inr (10, [.int v_heaps, .ref a_sets, .ref a_papers, .int v_seats, .ref a_worths, .int v_signs, .ref a_sign, .int v_hallMany, .ref a_hallSign, .ref a_chosen, .int v_chosenSet, .int v_paidSeats, .ref a_upper, .ref a_lower, .long v_rhoUp, .long v_rhoBy, .int v_breachGroup])), (a_papers, .inl (cyI, 7, .inl v_papers))]
def lp_X11_allPapers_4 (v_heaps : Int32) (v_papers : Nat → Int32) : Nat → Int32 → Int32 → Option (Int32)
  | 0, _, _ => none
  | n + 1, y1, y2 => (if v_heaps ≤ y2 then some y1 else (if ob_in y2 7 = true then lp_X11_allPapers_4 v_heaps v_papers n (y1 + (v_papers y2.toNatClampNeg)) (y2 + (1 : Int32)) else none))
def f_X11_allPapers (v_heaps : Int32) (v_papers : Nat → Int32) : Option (Int32) := (lp_X11_allPapers_4 v_heaps v_papers FU (0 : Int32) (0 : Int32)).bind (fun q3 => some q3)
set_option maxHeartbeats 4000000 in
set_option maxRecDepth 100000 in
theorem wl_X11_allPapers_4 {p : Program} {l : Launch} {e : Env} {s : State} {m : MethodId} {args : Array Value} {below : List Frame} {meth : Method} {c : Code} {A : Nat → Prop} {Q : State → Prop} {D : va_G} {cyI cyJ cyZ : ClassId} {a_this a_sets a_papers a_worths a_sign a_hallSign a_chosen a_upper a_lower : Nat} {v_heaps : Int32} {v_seats : Int32} {v_signs : Int32} {v_hallMany : Int32} {v_chosenSet : Int32} {v_paidSeats : Int32} {v_rhoUp : Int64} {v_rhoBy : Int64} {v_breachGroup : Int32} {v_papers : Nat → Int32} (C : kC p s m args c cX11_allPapers 3 RX11 wsX11_allPapers D (kTy cyI cyJ cyZ) A) :
    ∀ (n : Nat) (y1 : Int32) (y2 : Int32) (q : Int32) (H : Heap) (locs : List Loc) (ls : Array Slot), lp_X11_allPapers_4 v_heaps v_papers n y1 y2 = some q → (∀ (H : Heap) (locs : List Loc) (ls : Array Slot), va_P D vwCl (wd_X11_allPapers cyI cyJ cyZ a_this a_sets a_papers a_worths a_sign a_hallSign a_chosen a_upper a_lower v_heaps v_seats v_signs v_hallMany v_chosenSet v_paidSeats v_rhoUp v_rhoBy v_breachGroup v_papers) H → va_D A (wd_X11_allPapers cyI cyJ cyZ a_this a_sets a_papers a_worths a_sign a_hallSign a_chosen a_upper a_lower v_heaps v_seats v_signs v_hallMany v_chosenSet v_paidSeats v_rhoUp v_rhoBy v_breachGroup v_papers) → va_S A s.heap H locs → lv_has ls 3 [(1, .int q)] → W p l e rm_X11_allPapers s m args below meth c H locs 0 0 Q (F0 m 27 ls [])) → va_P D vwCl (wd_X11_allPapers cyI cyJ cyZ a_this a_sets a_papers a_worths a_sign a_hallSign a_chosen a_upper a_lower v_heaps v_seats v_signs v_hallMany v_chosenSet v_paidSeats v_rhoUp v_rhoBy v_breachGroup v_papers) H → va_D A (wd_X11_allPapers cyI cyJ cyZ a_this a_sets a_papers a_worths a_sign a_hallSign a_chosen a_upper a_lower v_heaps v_seats v_signs v_hallMany v_chosenSet v_paidSeats v_rhoUp v_rhoBy v_breachGroup v_papers) → va_S A s.heap H locs → lv_has ls 3 [(0, .ref a_this), (1, .int y1), (2, .int y2)] → W p l e rm_X11_allPapers s m args below meth c H locs 0 0 Q (F0 m 4 ls []) := by
  obtain ⟨hx, hb, hml, hown, hts, hK, hA⟩ := id C
  have iX11 : ∀ w ∈ u_ws RX11 TX11 17, w ∈ wsX11_allPapers := by decide +kernel
  have fl13 := hts (.fieldLink RX11 13 "FairSeatsModel" "papers" "[I") (by decide +kernel)
  have fl39 := hts (.fieldLink RX11 39 "FairSeatsModel" "heaps" "I") (by decide +kernel)
  intro n
  induction n with
  | zero =>
    intro y1 y2 q H locs ls hf K hP hD hS hl
    rw [lp_X11_allPapers_4] at hf
    cases hf
  | succ n ih =>
    intro y1 y2 q H locs ls hf K hP hD hS hl
    rw [lp_X11_allPapers_4] at hf
    refine lv_iload_n hx hb dX11_allPapers_4 rfl (lv_at hl 2 rfl) ?_
    refine lv_aload_n hx hb dX11_allPapers_5 rfl (lv_at hl 0 rfl) ?_
    refine va_get (D := D) (ci := 10) (v := .int v_heaps) (C := RX11) (T := TX11) (N := 17) hx hb hts iX11 hown hK hP 0 rfl rfl 0 (by decide) fl39 (fun _ h9 => h9) rfl dX11_allPapers_6 ?_
    refine lv_icmp_ge (tgt := 27) hx hb dX11_allPapers_9 (by decide) (fun c1 => ?_) (fun c1 => ?_)
    · have hf := ob_pos c1 hf
      obtain rfl := Option.some.inj hf
      exact K _ _ _ hP hD hS (lv_sub hl [1] rfl)
    · have hf := ob_neg c1 hf
      refine lv_iload_n hx hb dX11_allPapers_12 rfl (lv_at hl 1 rfl) ?_
      refine lv_aload_n hx hb dX11_allPapers_13 rfl (lv_at hl 0 rfl) ?_
      refine va_get (D := D) (ci := 10) (v := .ref a_papers) (C := RX11) (T := TX11) (N := 17) hx hb hts iX11 hown hK hP 0 rfl rfl 2 (by decide) fl13 (fun _ h9 => h9) rfl dX11_allPapers_14 ?_
      refine lv_iload_n hx hb dX11_allPapers_17 rfl (lv_at hl 2 rfl) ?_
      obtain ⟨h2, hf⟩ := og_in hf
      refine va_iald hx hb hK hP 1 0 rfl rfl h2 dX11_allPapers_18 ?_
      refine lv_iadd hx hb dX11_allPapers_19 ?_
      refine lv_istore_n (lv' := [(1, .int (y1 + (v_papers y2.toNatClampNeg))), (0, .ref a_this), (2, .int y2)]) hx hb dX11_allPapers_20 rfl hl (by decide) rfl (fun ls hl => ?_)
      refine lv_iinc (v := (y2 + (1 : Int32))) (lv' := [(2, .int (y2 + (1 : Int32))), (1, .int (y1 + (v_papers y2.toNatClampNeg))), (0, .ref a_this)]) hx hb dX11_allPapers_21 hl (k := 2) rfl rfl (by decide) rfl (fun ls hl => ?_)
      refine lv_goto (tgt := 4) hx hb dX11_allPapers_24 (by decide) ?_
      exact ih (y1 + (v_papers y2.toNatClampNeg)) (y2 + (1 : Int32)) _ _ _ _ hf K hP hD hS (lv_sub hl [2, 1, 0] rfl)
set_option maxHeartbeats 4000000 in
set_option maxRecDepth 100000 in
theorem c_X11_allPapers (l : Launch) (D : va_G) (cyI cyJ cyZ : ClassId) (a_this a_sets a_papers a_worths a_sign a_hallSign a_chosen a_upper a_lower : Nat) (v_heaps : Int32) (v_seats : Int32) (v_signs : Int32) (v_hallMany : Int32) (v_chosenSet : Int32) (v_paidSeats : Int32) (v_rhoUp : Int64) (v_rhoBy : Int64) (v_breachGroup : Int32) (v_papers : Nat → Int32) (q : Int32) (hf : f_X11_allPapers v_heaps v_papers = some q) : kMi l yX11_allPapers wsX11_allPapers rm_X11_allPapers D (kTy cyI cyJ cyZ) [.ref a_this] (wd_X11_allPapers cyI cyJ cyZ a_this a_sets a_papers a_worths a_sign a_hallSign a_chosen a_upper a_lower v_heaps v_seats v_signs v_hallMany v_chosenSet v_paidSeats v_rhoUp v_rhoBy v_breachGroup v_papers) (wd_X11_allPapers cyI cyJ cyZ a_this a_sets a_papers a_worths a_sign a_hallSign a_chosen a_upper a_lower v_heaps v_seats v_signs v_hallMany v_chosenSet v_paidSeats v_rhoUp v_rhoBy v_breachGroup v_papers) q := by
  refine kMi_of (cc := cX11_allPapers) (nL := 3) (own := RX11) (by decide) rfl rfl (Nat.le_of_ble_eq_true rfl) ?_
  intro p e s m below meth c A Q ls C hret hP hD hS hl
  have hl : lv_has ls 3 [(0, .ref a_this)] := hl
  unfold f_X11_allPapers at hf
  obtain ⟨hx, hb, hml, hown, hts, hK, hA⟩ := id C
  refine lv_iconst (v := (0 : Int32)) hx hb dX11_allPapers_0 (by decide) ?_
  refine lv_istore_n (lv' := [(1, .int (0 : Int32)), (0, .ref a_this)]) hx hb dX11_allPapers_1 rfl hl (by decide) rfl (fun ls hl => ?_)
  refine lv_iconst (v := (0 : Int32)) hx hb dX11_allPapers_2 (by decide) ?_
  refine lv_istore_n (lv' := [(2, .int (0 : Int32)), (1, .int (0 : Int32)), (0, .ref a_this)]) hx hb dX11_allPapers_3 rfl hl (by decide) rfl (fun ls hl => ?_)
  obtain ⟨q3, hq3, hf⟩ := ob_bind hf
  refine wl_X11_allPapers_4 C FU (0 : Int32) (0 : Int32) _ _ _ _ hq3 (fun H locs ls hP hD hS hl => ?_) hP hD hS (lv_sub hl [2, 1, 0] rfl)
  refine lv_iload_n hx hb dX11_allPapers_27 rfl (lv_at hl 0 rfl) ?_
  obtain rfl := Option.some.inj hf
  exact hret _ _ _ _ dX11_allPapers_28 hP hD hS
abbrev rm_X11_papersOf : Room := { frames := 0, cells := 0, slots := 0, locals := 0 }
abbrev wd_X11_papersOf (cyI cyJ cyZ : ClassId) (a_this a_sets a_papers a_worths a_sign a_hallSign a_chosen a_upper a_lower : Nat) (v_heaps : Int32) (v_seats : Int32) (v_signs : Int32) (v_hallMany : Int32) (v_chosenSet : Int32) (v_paidSeats : Int32) (v_rhoUp : Int64) (v_rhoBy : Int64) (v_breachGroup : Int32) (v_papers : Nat → Int32) (v_sets : Nat → Int32) : va_W := [(a_this, .inr (10, [.int v_heaps, .ref a_sets, .ref a_papers, .int v_seats, .ref a_worths, .int v_signs, .ref a_sign, .int v_hallMany, .ref a_hallSign, .ref a_chosen, .int v_chosenSet, .int v_paidSeats, .ref a_upper, .ref a_lower, .long v_rhoUp, .long v_rhoBy, .int v_breachGroup])), (a_papers, .inl (cyI, 7, .inl v_papers)), (a_sets, .inl (cyI, 7, .inl v_sets))]
def lp_X11_papersOf_4 (y1 : Int32) (v_heaps : Int32) (v_papers : Nat → Int32) (v_sets : Nat → Int32) : Nat → Int32 → Int32 → Option (Int32)
  | 0, _, _ => none
  | n + 1, y2, y3 => (if v_heaps ≤ y3 then some y2 else (if ob_in y3 7 = true then (if ob_in y3 7 = true then lp_X11_papersOf_4 y1 v_heaps v_papers v_sets n (y2 + ((((v_sets y3.toNatClampNeg) >>> (y1 &&& 31)) &&& (1 : Int32)) * (v_papers y3.toNatClampNeg))) (y3 + (1 : Int32)) else none) else none))
def f_X11_papersOf (x1 : Int32) (v_heaps : Int32) (v_papers : Nat → Int32) (v_sets : Nat → Int32) : Option (Int32) := (lp_X11_papersOf_4 x1 v_heaps v_papers v_sets FU (0 : Int32) (0 : Int32)).bind (fun q4 => some q4)
set_option maxHeartbeats 4000000 in
set_option maxRecDepth 100000 in
theorem wl_X11_papersOf_4 {p : Program} {l : Launch} {e : Env} {s : State} {m : MethodId} {args : Array Value} {below : List Frame} {meth : Method} {c : Code} {A : Nat → Prop} {Q : State → Prop} {D : va_G} {cyI cyJ cyZ : ClassId} {a_this a_sets a_papers a_worths a_sign a_hallSign a_chosen a_upper a_lower : Nat} {y1 : Int32} {v_heaps : Int32} {v_seats : Int32} {v_signs : Int32} {v_hallMany : Int32} {v_chosenSet : Int32} {v_paidSeats : Int32} {v_rhoUp : Int64} {v_rhoBy : Int64} {v_breachGroup : Int32} {v_papers : Nat → Int32} {v_sets : Nat → Int32} (C : kC p s m args c cX11_papersOf 4 RX11 wsX11_papersOf D (kTy cyI cyJ cyZ) A) :
    ∀ (n : Nat) (y2 : Int32) (y3 : Int32) (q : Int32) (H : Heap) (locs : List Loc) (ls : Array Slot), lp_X11_papersOf_4 y1 v_heaps v_papers v_sets n y2 y3 = some q → (∀ (H : Heap) (locs : List Loc) (ls : Array Slot), va_P D vwCl (wd_X11_papersOf cyI cyJ cyZ a_this a_sets a_papers a_worths a_sign a_hallSign a_chosen a_upper a_lower v_heaps v_seats v_signs v_hallMany v_chosenSet v_paidSeats v_rhoUp v_rhoBy v_breachGroup v_papers v_sets) H → va_D A (wd_X11_papersOf cyI cyJ cyZ a_this a_sets a_papers a_worths a_sign a_hallSign a_chosen a_upper a_lower v_heaps v_seats v_signs v_hallMany v_chosenSet v_paidSeats v_rhoUp v_rhoBy v_breachGroup v_papers v_sets) → va_S A s.heap H locs → lv_has ls 4 [(2, .int q)] → W p l e rm_X11_papersOf s m args below meth c H locs 0 0 Q (F0 m 38 ls [])) → va_P D vwCl (wd_X11_papersOf cyI cyJ cyZ a_this a_sets a_papers a_worths a_sign a_hallSign a_chosen a_upper a_lower v_heaps v_seats v_signs v_hallMany v_chosenSet v_paidSeats v_rhoUp v_rhoBy v_breachGroup v_papers v_sets) H → va_D A (wd_X11_papersOf cyI cyJ cyZ a_this a_sets a_papers a_worths a_sign a_hallSign a_chosen a_upper a_lower v_heaps v_seats v_signs v_hallMany v_chosenSet v_paidSeats v_rhoUp v_rhoBy v_breachGroup v_papers v_sets) → va_S A s.heap H locs → lv_has ls 4 [(0, .ref a_this), (1, .int y1), (2, .int y2), (3, .int y3)] → W p l e rm_X11_papersOf s m args below meth c H locs 0 0 Q (F0 m 4 ls []) := by
  obtain ⟨hx, hb, hml, hown, hts, hK, hA⟩ := id C
  have iX11 : ∀ w ∈ u_ws RX11 TX11 17, w ∈ wsX11_papersOf := by decide +kernel
  have fl7 := hts (.fieldLink RX11 7 "FairSeatsModel" "sets" "[I") (by decide +kernel)
  have fl13 := hts (.fieldLink RX11 13 "FairSeatsModel" "papers" "[I") (by decide +kernel)
  have fl39 := hts (.fieldLink RX11 39 "FairSeatsModel" "heaps" "I") (by decide +kernel)
  intro n
  induction n with
  | zero =>
    intro y2 y3 q H locs ls hf K hP hD hS hl
    rw [lp_X11_papersOf_4] at hf
    cases hf
  | succ n ih =>
    intro y2 y3 q H locs ls hf K hP hD hS hl
    rw [lp_X11_papersOf_4] at hf
    refine lv_iload_n hx hb dX11_papersOf_4 rfl (lv_at hl 3 rfl) ?_
    refine lv_aload_n hx hb dX11_papersOf_5 rfl (lv_at hl 0 rfl) ?_
    refine va_get (D := D) (ci := 10) (v := .int v_heaps) (C := RX11) (T := TX11) (N := 17) hx hb hts iX11 hown hK hP 0 rfl rfl 0 (by decide) fl39 (fun _ h9 => h9) rfl dX11_papersOf_6 ?_
    refine lv_icmp_ge (tgt := 38) hx hb dX11_papersOf_9 (by decide) (fun c1 => ?_) (fun c1 => ?_)
    · have hf := ob_pos c1 hf
      obtain rfl := Option.some.inj hf
      exact K _ _ _ hP hD hS (lv_sub hl [2] rfl)
    · have hf := ob_neg c1 hf
      refine lv_iload_n hx hb dX11_papersOf_12 rfl (lv_at hl 2 rfl) ?_
      refine lv_aload_n hx hb dX11_papersOf_13 rfl (lv_at hl 0 rfl) ?_
      refine va_get (D := D) (ci := 10) (v := .ref a_sets) (C := RX11) (T := TX11) (N := 17) hx hb hts iX11 hown hK hP 0 rfl rfl 1 (by decide) fl7 (fun _ h9 => h9) rfl dX11_papersOf_14 ?_
      refine lv_iload_n hx hb dX11_papersOf_17 rfl (lv_at hl 3 rfl) ?_
      obtain ⟨h2, hf⟩ := og_in hf
      refine va_iald hx hb hK hP 2 0 rfl rfl h2 dX11_papersOf_18 ?_
      refine lv_iload_n hx hb dX11_papersOf_19 rfl (lv_at hl 1 rfl) ?_
      refine lv_ishr hx hb dX11_papersOf_20 ?_
      refine lv_iconst (v := (1 : Int32)) hx hb dX11_papersOf_21 (by decide) ?_
      refine lv_iand hx hb dX11_papersOf_22 ?_
      refine lv_aload_n hx hb dX11_papersOf_23 rfl (lv_at hl 0 rfl) ?_
      refine va_get (D := D) (ci := 10) (v := .ref a_papers) (C := RX11) (T := TX11) (N := 17) hx hb hts iX11 hown hK hP 0 rfl rfl 2 (by decide) fl13 (fun _ h9 => h9) rfl dX11_papersOf_24 ?_
      refine lv_iload_n hx hb dX11_papersOf_27 rfl (lv_at hl 3 rfl) ?_
      obtain ⟨h3, hf⟩ := og_in hf
      refine va_iald hx hb hK hP 1 0 rfl rfl h3 dX11_papersOf_28 ?_
      refine lv_imul hx hb dX11_papersOf_29 ?_
      refine lv_iadd hx hb dX11_papersOf_30 ?_
      refine lv_istore_n (lv' := [(2, .int (y2 + ((((v_sets y3.toNatClampNeg) >>> (y1 &&& 31)) &&& (1 : Int32)) * (v_papers y3.toNatClampNeg)))), (0, .ref a_this), (1, .int y1), (3, .int y3)]) hx hb dX11_papersOf_31 rfl hl (by decide) rfl (fun ls hl => ?_)
      refine lv_iinc (v := (y3 + (1 : Int32))) (lv' := [(3, .int (y3 + (1 : Int32))), (2, .int (y2 + ((((v_sets y3.toNatClampNeg) >>> (y1 &&& 31)) &&& (1 : Int32)) * (v_papers y3.toNatClampNeg)))), (0, .ref a_this), (1, .int y1)]) hx hb dX11_papersOf_32 hl (k := 3) rfl rfl (by decide) rfl (fun ls hl => ?_)
      refine lv_goto (tgt := 4) hx hb dX11_papersOf_35 (by decide) ?_
      exact ih (y2 + ((((v_sets y3.toNatClampNeg) >>> (y1 &&& 31)) &&& (1 : Int32)) * (v_papers y3.toNatClampNeg))) (y3 + (1 : Int32)) _ _ _ _ hf K hP hD hS (lv_sub hl [2, 3, 1, 0] rfl)
set_option maxHeartbeats 4000000 in
set_option maxRecDepth 100000 in
theorem c_X11_papersOf (l : Launch) (D : va_G) (cyI cyJ cyZ : ClassId) (a_this a_sets a_papers a_worths a_sign a_hallSign a_chosen a_upper a_lower : Nat) (v_heaps : Int32) (v_seats : Int32) (v_signs : Int32) (v_hallMany : Int32) (v_chosenSet : Int32) (v_paidSeats : Int32) (v_rhoUp : Int64) (v_rhoBy : Int64) (v_breachGroup : Int32) (v_papers : Nat → Int32) (v_sets : Nat → Int32) (x1 : Int32) (q : Int32) (hf : f_X11_papersOf x1 v_heaps v_papers v_sets = some q) : kMi l yX11_papersOf wsX11_papersOf rm_X11_papersOf D (kTy cyI cyJ cyZ) [.ref a_this, .int x1] (wd_X11_papersOf cyI cyJ cyZ a_this a_sets a_papers a_worths a_sign a_hallSign a_chosen a_upper a_lower v_heaps v_seats v_signs v_hallMany v_chosenSet v_paidSeats v_rhoUp v_rhoBy v_breachGroup v_papers v_sets) (wd_X11_papersOf cyI cyJ cyZ a_this a_sets a_papers a_worths a_sign a_hallSign a_chosen a_upper a_lower v_heaps v_seats v_signs v_hallMany v_chosenSet v_paidSeats v_rhoUp v_rhoBy v_breachGroup v_papers v_sets) q := by
  refine kMi_of (cc := cX11_papersOf) (nL := 4) (own := RX11) (by decide) rfl rfl (Nat.le_of_ble_eq_true rfl) ?_
  intro p e s m below meth c A Q ls C hret hP hD hS hl
  have hl : lv_has ls 4 [(0, .ref a_this), (1, .int x1)] := hl
  unfold f_X11_papersOf at hf
  obtain ⟨hx, hb, hml, hown, hts, hK, hA⟩ := id C
  refine lv_iconst (v := (0 : Int32)) hx hb dX11_papersOf_0 (by decide) ?_
  refine lv_istore_n (lv' := [(2, .int (0 : Int32)), (0, .ref a_this), (1, .int x1)]) hx hb dX11_papersOf_1 rfl hl (by decide) rfl (fun ls hl => ?_)
  refine lv_iconst (v := (0 : Int32)) hx hb dX11_papersOf_2 (by decide) ?_
  refine lv_istore_n (lv' := [(3, .int (0 : Int32)), (2, .int (0 : Int32)), (0, .ref a_this), (1, .int x1)]) hx hb dX11_papersOf_3 rfl hl (by decide) rfl (fun ls hl => ?_)
  obtain ⟨q4, hq4, hf⟩ := ob_bind hf
  refine wl_X11_papersOf_4 C FU (0 : Int32) (0 : Int32) _ _ _ _ hq4 (fun H locs ls hP hD hS hl => ?_) hP hD hS (lv_sub hl [2, 3, 1, 0] rfl)
  refine lv_iload_n hx hb dX11_papersOf_38 rfl (lv_at hl 0 rfl) ?_
  obtain rfl := Option.some.inj hf
  exact hret _ _ _ _ dX11_papersOf_39 hP hD hS
abbrev rm_X11_pick : Room := { frames := 0, cells := 0, slots := 0, locals := 0 }
abbrev wd_X11_pick (cyI cyJ cyZ : ClassId) (a_this a_sets a_papers a_worths a_sign a_hallSign a_chosen a_upper a_lower : Nat) (v_heaps : Int32) (v_seats : Int32) (v_signs : Int32) (v_hallMany : Int32) (v_chosenSet : Int32) (v_paidSeats : Int32) (v_rhoUp : Int64) (v_rhoBy : Int64) (v_breachGroup : Int32) (v_chosen : Nat → Int32) : va_W := [(a_this, .inr (10, [.int v_heaps, .ref a_sets, .ref a_papers, .int v_seats, .ref a_worths, .int v_signs, .ref a_sign, .int v_hallMany, .ref a_hallSign, .ref a_chosen, .int v_chosenSet, .int v_paidSeats, .ref a_upper, .ref a_lower, .long v_rhoUp, .long v_rhoBy, .int v_breachGroup])), (a_chosen, .inl (cyI, 8, .inl v_chosen))]
def f_X11_pick (x1 : Int32) (x2 : Int32) (v_chosenSet : Int32) (v_chosen : Nat → Int32) : Option (Int32 × (Nat → Int32)) := (if ob_in x1 8 = true then some ((v_chosenSet ||| ((1 : Int32) <<< (x2 &&& 31))), (upd v_chosen x1.toNatClampNeg x2)) else none)
set_option maxHeartbeats 4000000 in
set_option maxRecDepth 100000 in
theorem c_X11_pick (l : Launch) (D : va_G) (cyI cyJ cyZ : ClassId) (a_this a_sets a_papers a_worths a_sign a_hallSign a_chosen a_upper a_lower : Nat) (v_heaps : Int32) (v_seats : Int32) (v_signs : Int32) (v_hallMany : Int32) (v_chosenSet : Int32) (v_paidSeats : Int32) (v_rhoUp : Int64) (v_rhoBy : Int64) (v_breachGroup : Int32) (v_chosen : Nat → Int32) (x1 : Int32) (x2 : Int32) (q : Int32 × (Nat → Int32)) (hf : f_X11_pick x1 x2 v_chosenSet v_chosen = some q) : kMv l yX11_pick wsX11_pick rm_X11_pick D (kTy cyI cyJ cyZ) [.ref a_this, .int x1, .int x2] (wd_X11_pick cyI cyJ cyZ a_this a_sets a_papers a_worths a_sign a_hallSign a_chosen a_upper a_lower v_heaps v_seats v_signs v_hallMany v_chosenSet v_paidSeats v_rhoUp v_rhoBy v_breachGroup v_chosen) (wd_X11_pick cyI cyJ cyZ a_this a_sets a_papers a_worths a_sign a_hallSign a_chosen a_upper a_lower v_heaps v_seats v_signs v_hallMany q.1 v_paidSeats v_rhoUp v_rhoBy v_breachGroup q.2) := by
  refine kMv_of (cc := cX11_pick) (nL := 3) (own := RX11) (by decide) rfl rfl (Nat.le_of_ble_eq_true rfl) ?_
  intro p e s m below meth c A Q ls C hret hP hD hS hl
  have hl : lv_has ls 3 [(0, .ref a_this), (1, .int x1), (2, .int x2)] := hl
  unfold f_X11_pick at hf
  obtain ⟨hx, hb, hml, hown, hts, hK, hA⟩ := id C
  have iX11 : ∀ w ∈ u_ws RX11 TX11 17, w ∈ wsX11_pick := by decide +kernel
  have fl29 := hts (.fieldLink RX11 29 "FairSeatsModel" "chosen" "[I") (by decide +kernel)
  have fl76 := hts (.fieldLink RX11 76 "FairSeatsModel" "chosenSet" "I") (by decide +kernel)
  refine lv_aload_n hx hb dX11_pick_0 rfl (lv_at hl 0 rfl) ?_
  refine va_get (D := D) (ci := 10) (v := .ref a_chosen) (C := RX11) (T := TX11) (N := 17) hx hb hts iX11 hown hK hP 0 rfl rfl 9 (by decide) fl29 (fun _ h9 => h9) rfl dX11_pick_1 ?_
  refine lv_iload_n hx hb dX11_pick_4 rfl (lv_at hl 1 rfl) ?_
  refine lv_iload_n hx hb dX11_pick_5 rfl (lv_at hl 2 rfl) ?_
  obtain ⟨h1, hf⟩ := og_in hf
  refine va_iast hx hb hK hP hD hS 1 0 rfl rfl h1 dX11_pick_6 (fun H locs hP hD hS => ?_)
  have hP : va_P D vwCl (wd_X11_pick cyI cyJ cyZ a_this a_sets a_papers a_worths a_sign a_hallSign a_chosen a_upper a_lower v_heaps v_seats v_signs v_hallMany v_chosenSet v_paidSeats v_rhoUp v_rhoBy v_breachGroup (upd v_chosen x1.toNatClampNeg x2)) H := hP
  have hD : va_D A (wd_X11_pick cyI cyJ cyZ a_this a_sets a_papers a_worths a_sign a_hallSign a_chosen a_upper a_lower v_heaps v_seats v_signs v_hallMany v_chosenSet v_paidSeats v_rhoUp v_rhoBy v_breachGroup (upd v_chosen x1.toNatClampNeg x2)) := hD
  refine lv_aload_n hx hb dX11_pick_7 rfl (lv_at hl 0 rfl) ?_
  refine lv_dup hx hb dX11_pick_8 rfl ?_
  refine va_get (D := D) (ci := 10) (v := .int v_chosenSet) (C := RX11) (T := TX11) (N := 17) hx hb hts iX11 hown hK hP 0 rfl rfl 10 (by decide) fl76 (fun _ h9 => h9) rfl dX11_pick_9 ?_
  refine lv_iconst (v := (1 : Int32)) hx hb dX11_pick_12 (by decide) ?_
  refine lv_iload_n hx hb dX11_pick_13 rfl (lv_at hl 2 rfl) ?_
  refine lv_ishl hx hb dX11_pick_14 ?_
  refine lv_ior hx hb dX11_pick_15 ?_
  refine va_put (D := D) (ci := 10) (v := .int (v_chosenSet ||| ((1 : Int32) <<< (x2 &&& 31)))) (ty := .int) (C := RX11) (T := TX11) (N := 17) hx hb hts iX11 tyX11 tyX11_ok nmX11 hown hK hP hD hS 0 rfl rfl 10 (by decide) fl76 (fun _ h9 => h9) rfl (by decide +kernel) rfl rfl (Nat.le_of_ble_eq_true rfl) dX11_pick_16 (fun H locs hP hD hS => ?_)
  have hP : va_P D vwCl (wd_X11_pick cyI cyJ cyZ a_this a_sets a_papers a_worths a_sign a_hallSign a_chosen a_upper a_lower v_heaps v_seats v_signs v_hallMany (v_chosenSet ||| ((1 : Int32) <<< (x2 &&& 31))) v_paidSeats v_rhoUp v_rhoBy v_breachGroup (upd v_chosen x1.toNatClampNeg x2)) H := hP
  have hD : va_D A (wd_X11_pick cyI cyJ cyZ a_this a_sets a_papers a_worths a_sign a_hallSign a_chosen a_upper a_lower v_heaps v_seats v_signs v_hallMany (v_chosenSet ||| ((1 : Int32) <<< (x2 &&& 31))) v_paidSeats v_rhoUp v_rhoBy v_breachGroup (upd v_chosen x1.toNatClampNeg x2)) := hD
  obtain rfl := Option.some.inj hf
  exact hret _ _ _ _ dX11_pick_19 hP hD hS
abbrev rm_X11_isLeft : Room := { frames := 0, cells := 0, slots := 0, locals := 0 }
abbrev wd_X11_isLeft (cyI cyJ cyZ : ClassId) (a_this a_sets a_papers a_worths a_sign a_hallSign a_chosen a_upper a_lower : Nat) (v_heaps : Int32) (v_seats : Int32) (v_signs : Int32) (v_hallMany : Int32) (v_chosenSet : Int32) (v_paidSeats : Int32) (v_rhoUp : Int64) (v_rhoBy : Int64) (v_breachGroup : Int32) : va_W := [(a_this, .inr (10, [.int v_heaps, .ref a_sets, .ref a_papers, .int v_seats, .ref a_worths, .int v_signs, .ref a_sign, .int v_hallMany, .ref a_hallSign, .ref a_chosen, .int v_chosenSet, .int v_paidSeats, .ref a_upper, .ref a_lower, .long v_rhoUp, .long v_rhoBy, .int v_breachGroup]))]
def f_X11_isLeft (x1 : Int32) (v_chosenSet : Int32) : Option (Int32) := (if ((v_chosenSet >>> (x1 &&& 31)) &&& (1 : Int32)) = 0 then some (1 : Int32) else some (0 : Int32))
set_option maxHeartbeats 4000000 in
set_option maxRecDepth 100000 in
theorem c_X11_isLeft (l : Launch) (D : va_G) (cyI cyJ cyZ : ClassId) (a_this a_sets a_papers a_worths a_sign a_hallSign a_chosen a_upper a_lower : Nat) (v_heaps : Int32) (v_seats : Int32) (v_signs : Int32) (v_hallMany : Int32) (v_chosenSet : Int32) (v_paidSeats : Int32) (v_rhoUp : Int64) (v_rhoBy : Int64) (v_breachGroup : Int32) (x1 : Int32) (q : Int32) (hf : f_X11_isLeft x1 v_chosenSet = some q) : kMz l yX11_isLeft wsX11_isLeft rm_X11_isLeft D (kTy cyI cyJ cyZ) [.ref a_this, .int x1] (wd_X11_isLeft cyI cyJ cyZ a_this a_sets a_papers a_worths a_sign a_hallSign a_chosen a_upper a_lower v_heaps v_seats v_signs v_hallMany v_chosenSet v_paidSeats v_rhoUp v_rhoBy v_breachGroup) (wd_X11_isLeft cyI cyJ cyZ a_this a_sets a_papers a_worths a_sign a_hallSign a_chosen a_upper a_lower v_heaps v_seats v_signs v_hallMany v_chosenSet v_paidSeats v_rhoUp v_rhoBy v_breachGroup) q := by
  refine kMz_of (cc := cX11_isLeft) (nL := 2) (own := RX11) (by decide) rfl rfl (Nat.le_of_ble_eq_true rfl) ?_
  intro p e s m below meth c A Q ls C hret hP hD hS hl
  have hl : lv_has ls 2 [(0, .ref a_this), (1, .int x1)] := hl
  unfold f_X11_isLeft at hf
  obtain ⟨hx, hb, hml, hown, hts, hK, hA⟩ := id C
  have iX11 : ∀ w ∈ u_ws RX11 TX11 17, w ∈ wsX11_isLeft := by decide +kernel
  have fl76 := hts (.fieldLink RX11 76 "FairSeatsModel" "chosenSet" "I") (by decide +kernel)
  refine lv_aload_n hx hb dX11_isLeft_0 rfl (lv_at hl 0 rfl) ?_
  refine va_get (D := D) (ci := 10) (v := .int v_chosenSet) (C := RX11) (T := TX11) (N := 17) hx hb hts iX11 hown hK hP 0 rfl rfl 10 (by decide) fl76 (fun _ h9 => h9) rfl dX11_isLeft_1 ?_
  refine lv_iload_n hx hb dX11_isLeft_4 rfl (lv_at hl 1 rfl) ?_
  refine lv_ishr hx hb dX11_isLeft_5 ?_
  refine lv_iconst (v := (1 : Int32)) hx hb dX11_isLeft_6 (by decide) ?_
  refine lv_iand hx hb dX11_isLeft_7 ?_
  refine lv_if_ne (tgt := 15) hx hb dX11_isLeft_8 (by decide) (fun c1 => ?_) (fun c1 => ?_)
  · have hf := ob_neg c1 hf
    refine lv_iconst (v := (0 : Int32)) hx hb dX11_isLeft_15 (by decide) ?_
    obtain rfl := Option.some.inj hf
    exact hret _ _ _ _ narrow_b0 dX11_isLeft_16 hP hD hS
  · have hf := ob_pos c1 hf
    refine lv_iconst (v := (1 : Int32)) hx hb dX11_isLeft_11 (by decide) ?_
    refine lv_goto (tgt := 16) hx hb dX11_isLeft_12 (by decide) ?_
    obtain rfl := Option.some.inj hf
    exact hret _ _ _ _ narrow_b1 dX11_isLeft_16 hP hD hS
abbrev rm_X11_mostOf : Room := { frames := 1, cells := 0, slots := 0, locals := 23 }
abbrev wd_X11_mostOf (cyI cyJ cyZ : ClassId) (a_this a_sets a_papers a_worths a_sign a_hallSign a_chosen a_upper a_lower : Nat) (v_heaps : Int32) (v_seats : Int32) (v_signs : Int32) (v_hallMany : Int32) (v_chosenSet : Int32) (v_paidSeats : Int32) (v_rhoUp : Int64) (v_rhoBy : Int64) (v_breachGroup : Int32) (v_papers : Nat → Int32) (v_sets : Nat → Int32) : va_W := [(a_this, .inr (10, [.int v_heaps, .ref a_sets, .ref a_papers, .int v_seats, .ref a_worths, .int v_signs, .ref a_sign, .int v_hallMany, .ref a_hallSign, .ref a_chosen, .int v_chosenSet, .int v_paidSeats, .ref a_upper, .ref a_lower, .long v_rhoUp, .long v_rhoBy, .int v_breachGroup])), (a_papers, .inl (cyI, 7, .inl v_papers)), (a_sets, .inl (cyI, 7, .inl v_sets))]
def lp_X11_mostOf_5 (v_heaps : Int32) (v_chosenSet : Int32) (v_papers : Nat → Int32) (v_sets : Nat → Int32) : Nat → Int32 → Int32 → Option (Int32)
  | 0, _, _ => none
  | n + 1, y1, y2 => (if (8 : Int32) ≤ y2 then some y1 else (f_X11_isLeft y2 v_chosenSet).bind (fun q2 => (if q2 = 0 then lp_X11_mostOf_5 v_heaps v_chosenSet v_papers v_sets n y1 (y2 + (1 : Int32)) else (if y1 < 0 then lp_X11_mostOf_5 v_heaps v_chosenSet v_papers v_sets n y2 (y2 + (1 : Int32)) else (f_X11_papersOf y2 v_heaps v_papers v_sets).bind (fun q5 => (f_X11_papersOf y1 v_heaps v_papers v_sets).bind (fun q6 => (if q5 ≤ q6 then lp_X11_mostOf_5 v_heaps v_chosenSet v_papers v_sets n y1 (y2 + (1 : Int32)) else lp_X11_mostOf_5 v_heaps v_chosenSet v_papers v_sets n y2 (y2 + (1 : Int32)))))))))
def f_X11_mostOf (v_heaps : Int32) (v_chosenSet : Int32) (v_papers : Nat → Int32) (v_sets : Nat → Int32) : Option (Int32) := (lp_X11_mostOf_5 v_heaps v_chosenSet v_papers v_sets FU (-6 : Int32) (0 : Int32)).bind (fun q8 => some q8)
set_option maxHeartbeats 4000000 in
set_option maxRecDepth 100000 in
theorem wl_X11_mostOf_5 {p : Program} {l : Launch} {e : Env} {s : State} {m : MethodId} {args : Array Value} {below : List Frame} {meth : Method} {c : Code} {A : Nat → Prop} {Q : State → Prop} {D : va_G} {cyI cyJ cyZ : ClassId} {a_this a_sets a_papers a_worths a_sign a_hallSign a_chosen a_upper a_lower : Nat} {v_heaps : Int32} {v_seats : Int32} {v_signs : Int32} {v_hallMany : Int32} {v_chosenSet : Int32} {v_paidSeats : Int32} {v_rhoUp : Int64} {v_rhoBy : Int64} {v_breachGroup : Int32} {v_papers : Nat → Int32} {v_sets : Nat → Int32} (C : kC p s m args c cX11_mostOf 3 RX11 wsX11_mostOf D (kTy cyI cyJ cyZ) A) :
    ∀ (n : Nat) (y1 : Int32) (y2 : Int32) (q : Int32) (H : Heap) (locs : List Loc) (ls : Array Slot), lp_X11_mostOf_5 v_heaps v_chosenSet v_papers v_sets n y1 y2 = some q → (∀ (H : Heap) (locs : List Loc) (ls : Array Slot), va_P D vwCl (wd_X11_mostOf cyI cyJ cyZ a_this a_sets a_papers a_worths a_sign a_hallSign a_chosen a_upper a_lower v_heaps v_seats v_signs v_hallMany v_chosenSet v_paidSeats v_rhoUp v_rhoBy v_breachGroup v_papers v_sets) H → va_D A (wd_X11_mostOf cyI cyJ cyZ a_this a_sets a_papers a_worths a_sign a_hallSign a_chosen a_upper a_lower v_heaps v_seats v_signs v_hallMany v_chosenSet v_paidSeats v_rhoUp v_rhoBy v_breachGroup v_papers v_sets) → va_S A s.heap H locs → lv_has ls 3 [(1, .int q)] → W p l e rm_X11_mostOf s m args below meth c H locs 0 0 Q (F0 m 48 ls [])) → va_P D vwCl (wd_X11_mostOf cyI cyJ cyZ a_this a_sets a_papers a_worths a_sign a_hallSign a_chosen a_upper a_lower v_heaps v_seats v_signs v_hallMany v_chosenSet v_paidSeats v_rhoUp v_rhoBy v_breachGroup v_papers v_sets) H → va_D A (wd_X11_mostOf cyI cyJ cyZ a_this a_sets a_papers a_worths a_sign a_hallSign a_chosen a_upper a_lower v_heaps v_seats v_signs v_hallMany v_chosenSet v_paidSeats v_rhoUp v_rhoBy v_breachGroup v_papers v_sets) → va_S A s.heap H locs → lv_has ls 3 [(0, .ref a_this), (1, .int y1), (2, .int y2)] → W p l e rm_X11_mostOf s m args below meth c H locs 0 0 Q (F0 m 5 ls []) := by
  obtain ⟨hx, hb, hml, hown, hts, hK, hA⟩ := id C
  have cw79 := cwV (R := rm_X11_mostOf) (rm := rm_X11_isLeft) 1 hts gX11_mostOf_X11_isLeft rfl rfl rfl (by decide +kernel) ⟨Nat.le_of_ble_eq_true rfl, Nat.le_of_ble_eq_true rfl⟩
  have cw82 := cwV (R := rm_X11_mostOf) (rm := rm_X11_papersOf) 1 hts gX11_mostOf_X11_papersOf rfl rfl rfl (by decide +kernel) ⟨Nat.le_of_ble_eq_true rfl, Nat.le_of_ble_eq_true rfl⟩
  intro n
  induction n with
  | zero =>
    intro y1 y2 q H locs ls hf K hP hD hS hl
    rw [lp_X11_mostOf_5] at hf
    cases hf
  | succ n ih =>
    intro y1 y2 q H locs ls hf K hP hD hS hl
    rw [lp_X11_mostOf_5] at hf
    refine lv_iload_n hx hb dX11_mostOf_5 rfl (lv_at hl 2 rfl) ?_
    refine lv_bipush (v := (8 : Int32)) hx hb dX11_mostOf_6 (by decide) ?_
    refine lv_icmp_ge (tgt := 48) hx hb dX11_mostOf_8 (by decide) (fun c1 => ?_) (fun c1 => ?_)
    · have hf := ob_pos c1 hf
      obtain rfl := Option.some.inj hf
      exact K _ _ _ hP hD hS (lv_sub hl [1] rfl)
    · have hf := ob_neg c1 hf
      refine lv_aload_n hx hb dX11_mostOf_11 rfl (lv_at hl 0 rfl) ?_
      refine lv_iload_n hx hb dX11_mostOf_12 rfl (lv_at hl 2 rfl) ?_
      obtain ⟨q2, hq2, hf⟩ := ob_bind hf
      refine k_Vz (wo := (wd_X11_mostOf cyI cyJ cyZ a_this a_sets a_papers a_worths a_sign a_hallSign a_chosen a_upper a_lower v_heaps v_seats v_signs v_hallMany v_chosenSet v_paidSeats v_rhoUp v_rhoBy v_breachGroup v_papers v_sets)) (As := [.int y2]) (rest := []) C (c_X11_isLeft l D cyI cyJ cyZ a_this a_sets a_papers a_worths a_sign a_hallSign a_chosen a_upper a_lower v_heaps v_seats v_signs v_hallMany v_chosenSet v_paidSeats v_rhoUp v_rhoBy v_breachGroup y2 q2 hq2) cw79 hP hD hS [0] [1, 2] [2, 0, 1] rfl rfl rfl (by decide) 0 (ci := 10) rfl rfl rfl rfl rfl hl.1 (Nat.le_of_ble_eq_true rfl) dX11_mostOf_13 ⟨Nat.zero_le _, Nat.zero_le _⟩ (fun H locs zq2 hP hD hS => ?_)
      refine lv_if_eq (tgt := 40) hx hb dX11_mostOf_16 (by decide) (fun c3 => ?_) (fun c3 => ?_)
      · have hf := ob_pos c3 hf
        refine lv_iload_n hx hb dX11_mostOf_40 rfl (lv_at hl 1 rfl) ?_
        refine lv_istore_n (lv' := [(1, .int y1), (0, .ref a_this), (2, .int y2)]) hx hb dX11_mostOf_41 rfl hl (by decide) rfl (fun ls hl => ?_)
        refine lv_iinc (v := (y2 + (1 : Int32))) (lv' := [(2, .int (y2 + (1 : Int32))), (1, .int y1), (0, .ref a_this)]) hx hb dX11_mostOf_42 hl (k := 2) rfl rfl (by decide) rfl (fun ls hl => ?_)
        refine lv_goto (tgt := 5) hx hb dX11_mostOf_45 (by decide) ?_
        exact ih y1 (y2 + (1 : Int32)) _ _ _ _ hf K hP hD hS (lv_sub hl [2, 1, 0] rfl)
      · have hf := ob_neg c3 hf
        refine lv_iload_n hx hb dX11_mostOf_19 rfl (lv_at hl 1 rfl) ?_
        refine lv_if_lt (tgt := 36) hx hb dX11_mostOf_20 (by decide) (fun c4 => ?_) (fun c4 => ?_)
        · have hf := ob_pos c4 hf
          refine lv_iload_n hx hb dX11_mostOf_36 rfl (lv_at hl 2 rfl) ?_
          refine lv_goto (tgt := 41) hx hb dX11_mostOf_37 (by decide) ?_
          refine lv_istore_n (lv' := [(1, .int y2), (0, .ref a_this), (2, .int y2)]) hx hb dX11_mostOf_41 rfl hl (by decide) rfl (fun ls hl => ?_)
          refine lv_iinc (v := (y2 + (1 : Int32))) (lv' := [(2, .int (y2 + (1 : Int32))), (1, .int y2), (0, .ref a_this)]) hx hb dX11_mostOf_42 hl (k := 2) rfl rfl (by decide) rfl (fun ls hl => ?_)
          refine lv_goto (tgt := 5) hx hb dX11_mostOf_45 (by decide) ?_
          exact ih y2 (y2 + (1 : Int32)) _ _ _ _ hf K hP hD hS (lv_sub hl [2, 1, 0] rfl)
        · have hf := ob_neg c4 hf
          refine lv_aload_n hx hb dX11_mostOf_23 rfl (lv_at hl 0 rfl) ?_
          refine lv_iload_n hx hb dX11_mostOf_24 rfl (lv_at hl 2 rfl) ?_
          obtain ⟨q5, hq5, hf⟩ := ob_bind hf
          refine k_Vi (wo := (wd_X11_mostOf cyI cyJ cyZ a_this a_sets a_papers a_worths a_sign a_hallSign a_chosen a_upper a_lower v_heaps v_seats v_signs v_hallMany v_chosenSet v_paidSeats v_rhoUp v_rhoBy v_breachGroup v_papers v_sets)) (As := [.int y2]) (rest := []) C (c_X11_papersOf l D cyI cyJ cyZ a_this a_sets a_papers a_worths a_sign a_hallSign a_chosen a_upper a_lower v_heaps v_seats v_signs v_hallMany v_chosenSet v_paidSeats v_rhoUp v_rhoBy v_breachGroup v_papers v_sets y2 q5 hq5) cw82 hP hD hS [0, 1, 2] [] [0, 1, 2] rfl rfl rfl (by decide) 0 (ci := 10) rfl rfl rfl rfl rfl hl.1 (Nat.le_of_ble_eq_true rfl) dX11_mostOf_25 ⟨Nat.zero_le _, Nat.zero_le _⟩ (fun H locs hP hD hS => ?_)
          refine lv_aload_n hx hb dX11_mostOf_28 rfl (lv_at hl 0 rfl) ?_
          refine lv_iload_n hx hb dX11_mostOf_29 rfl (lv_at hl 1 rfl) ?_
          obtain ⟨q6, hq6, hf⟩ := ob_bind hf
          refine k_Vi (wo := (wd_X11_mostOf cyI cyJ cyZ a_this a_sets a_papers a_worths a_sign a_hallSign a_chosen a_upper a_lower v_heaps v_seats v_signs v_hallMany v_chosenSet v_paidSeats v_rhoUp v_rhoBy v_breachGroup v_papers v_sets)) (As := [.int y1]) (rest := [.int q5]) C (c_X11_papersOf l D cyI cyJ cyZ a_this a_sets a_papers a_worths a_sign a_hallSign a_chosen a_upper a_lower v_heaps v_seats v_signs v_hallMany v_chosenSet v_paidSeats v_rhoUp v_rhoBy v_breachGroup v_papers v_sets y1 q6 hq6) cw82 hP hD hS [0, 1, 2] [] [0, 1, 2] rfl rfl rfl (by decide) 0 (ci := 10) rfl rfl rfl rfl rfl hl.1 (Nat.le_of_ble_eq_true rfl) dX11_mostOf_30 ⟨Nat.zero_le _, Nat.zero_le _⟩ (fun H locs hP hD hS => ?_)
          refine lv_icmp_le (tgt := 40) hx hb dX11_mostOf_33 (by decide) (fun c7 => ?_) (fun c7 => ?_)
          · have hf := ob_pos c7 hf
            refine lv_iload_n hx hb dX11_mostOf_40 rfl (lv_at hl 1 rfl) ?_
            refine lv_istore_n (lv' := [(1, .int y1), (0, .ref a_this), (2, .int y2)]) hx hb dX11_mostOf_41 rfl hl (by decide) rfl (fun ls hl => ?_)
            refine lv_iinc (v := (y2 + (1 : Int32))) (lv' := [(2, .int (y2 + (1 : Int32))), (1, .int y1), (0, .ref a_this)]) hx hb dX11_mostOf_42 hl (k := 2) rfl rfl (by decide) rfl (fun ls hl => ?_)
            refine lv_goto (tgt := 5) hx hb dX11_mostOf_45 (by decide) ?_
            exact ih y1 (y2 + (1 : Int32)) _ _ _ _ hf K hP hD hS (lv_sub hl [2, 1, 0] rfl)
          · have hf := ob_neg c7 hf
            refine lv_iload_n hx hb dX11_mostOf_36 rfl (lv_at hl 2 rfl) ?_
            refine lv_goto (tgt := 41) hx hb dX11_mostOf_37 (by decide) ?_
            refine lv_istore_n (lv' := [(1, .int y2), (0, .ref a_this), (2, .int y2)]) hx hb dX11_mostOf_41 rfl hl (by decide) rfl (fun ls hl => ?_)
            refine lv_iinc (v := (y2 + (1 : Int32))) (lv' := [(2, .int (y2 + (1 : Int32))), (1, .int y2), (0, .ref a_this)]) hx hb dX11_mostOf_42 hl (k := 2) rfl rfl (by decide) rfl (fun ls hl => ?_)
            refine lv_goto (tgt := 5) hx hb dX11_mostOf_45 (by decide) ?_
            exact ih y2 (y2 + (1 : Int32)) _ _ _ _ hf K hP hD hS (lv_sub hl [2, 1, 0] rfl)
set_option maxHeartbeats 4000000 in
set_option maxRecDepth 100000 in
theorem c_X11_mostOf (l : Launch) (D : va_G) (cyI cyJ cyZ : ClassId) (a_this a_sets a_papers a_worths a_sign a_hallSign a_chosen a_upper a_lower : Nat) (v_heaps : Int32) (v_seats : Int32) (v_signs : Int32) (v_hallMany : Int32) (v_chosenSet : Int32) (v_paidSeats : Int32) (v_rhoUp : Int64) (v_rhoBy : Int64) (v_breachGroup : Int32) (v_papers : Nat → Int32) (v_sets : Nat → Int32) (q : Int32) (hf : f_X11_mostOf v_heaps v_chosenSet v_papers v_sets = some q) : kMi l yX11_mostOf wsX11_mostOf rm_X11_mostOf D (kTy cyI cyJ cyZ) [.ref a_this] (wd_X11_mostOf cyI cyJ cyZ a_this a_sets a_papers a_worths a_sign a_hallSign a_chosen a_upper a_lower v_heaps v_seats v_signs v_hallMany v_chosenSet v_paidSeats v_rhoUp v_rhoBy v_breachGroup v_papers v_sets) (wd_X11_mostOf cyI cyJ cyZ a_this a_sets a_papers a_worths a_sign a_hallSign a_chosen a_upper a_lower v_heaps v_seats v_signs v_hallMany v_chosenSet v_paidSeats v_rhoUp v_rhoBy v_breachGroup v_papers v_sets) q := by
  refine kMi_of (cc := cX11_mostOf) (nL := 3) (own := RX11) (by decide) rfl rfl (Nat.le_of_ble_eq_true rfl) ?_
  intro p e s m below meth c A Q ls C hret hP hD hS hl
  have hl : lv_has ls 3 [(0, .ref a_this)] := hl
  unfold f_X11_mostOf at hf
  obtain ⟨hx, hb, hml, hown, hts, hK, hA⟩ := id C
  refine lv_bipush (v := (-6 : Int32)) hx hb dX11_mostOf_0 (by decide) ?_
  refine lv_istore_n (lv' := [(1, .int (-6 : Int32)), (0, .ref a_this)]) hx hb dX11_mostOf_2 rfl hl (by decide) rfl (fun ls hl => ?_)
  refine lv_iconst (v := (0 : Int32)) hx hb dX11_mostOf_3 (by decide) ?_
  refine lv_istore_n (lv' := [(2, .int (0 : Int32)), (1, .int (-6 : Int32)), (0, .ref a_this)]) hx hb dX11_mostOf_4 rfl hl (by decide) rfl (fun ls hl => ?_)
  obtain ⟨q8, hq8, hf⟩ := ob_bind hf
  refine wl_X11_mostOf_5 C FU (-6 : Int32) (0 : Int32) _ _ _ _ hq8 (fun H locs ls hP hD hS hl => ?_) hP hD hS (lv_sub hl [2, 1, 0] rfl)
  refine lv_iload_n hx hb dX11_mostOf_48 rfl (lv_at hl 0 rfl) ?_
  obtain rfl := Option.some.inj hf
  exact hret _ _ _ _ dX11_mostOf_49 hP hD hS
abbrev rm_X11_greedyOf : Room := { frames := 2, cells := 0, slots := 0, locals := 47 }
abbrev wd_X11_greedyOf (cyI cyJ cyZ : ClassId) (a_this a_sets a_papers a_worths a_sign a_hallSign a_chosen a_upper a_lower : Nat) (v_heaps : Int32) (v_seats : Int32) (v_signs : Int32) (v_hallMany : Int32) (v_chosenSet : Int32) (v_paidSeats : Int32) (v_rhoUp : Int64) (v_rhoBy : Int64) (v_breachGroup : Int32) (v_papers : Nat → Int32) (v_sets : Nat → Int32) (v_worths : Nat → Int32) : va_W := [(a_this, .inr (10, [.int v_heaps, .ref a_sets, .ref a_papers, .int v_seats, .ref a_worths, .int v_signs, .ref a_sign, .int v_hallMany, .ref a_hallSign, .ref a_chosen, .int v_chosenSet, .int v_paidSeats, .ref a_upper, .ref a_lower, .long v_rhoUp, .long v_rhoBy, .int v_breachGroup])), (a_papers, .inl (cyI, 7, .inl v_papers)), (a_sets, .inl (cyI, 7, .inl v_sets)), (a_worths, .inl (cyI, 4, .inl v_worths))]
def lp_X11_greedyOf_5 (v_heaps : Int32) (v_chosenSet : Int32) (v_papers : Nat → Int32) (v_sets : Nat → Int32) (v_worths : Nat → Int32) : Nat → Int32 → Int32 → Option (Int32)
  | 0, _, _ => none
  | n + 1, y1, y2 => (if (8 : Int32) ≤ y2 then some y1 else (f_X11_isLeft y2 v_chosenSet).bind (fun q2 => (if q2 = 0 then lp_X11_greedyOf_5 v_heaps v_chosenSet v_papers v_sets v_worths n y1 (y2 + (1 : Int32)) else (if y1 < 0 then lp_X11_greedyOf_5 v_heaps v_chosenSet v_papers v_sets v_worths n y2 (y2 + (1 : Int32)) else (f_X11_worthOf (v_chosenSet ||| ((1 : Int32) <<< (y2 &&& 31))) v_heaps v_papers v_sets v_worths).bind (fun q5 => (f_X11_worthOf (v_chosenSet ||| ((1 : Int32) <<< (y1 &&& 31))) v_heaps v_papers v_sets v_worths).bind (fun q6 => (if q5 ≤ q6 then lp_X11_greedyOf_5 v_heaps v_chosenSet v_papers v_sets v_worths n y1 (y2 + (1 : Int32)) else lp_X11_greedyOf_5 v_heaps v_chosenSet v_papers v_sets v_worths n y2 (y2 + (1 : Int32)))))))))
def f_X11_greedyOf (v_heaps : Int32) (v_chosenSet : Int32) (v_papers : Nat → Int32) (v_sets : Nat → Int32) (v_worths : Nat → Int32) : Option (Int32) := (lp_X11_greedyOf_5 v_heaps v_chosenSet v_papers v_sets v_worths FU (-6 : Int32) (0 : Int32)).bind (fun q8 => some q8)
set_option maxHeartbeats 4000000 in
set_option maxRecDepth 100000 in
theorem wl_X11_greedyOf_5 {p : Program} {l : Launch} {e : Env} {s : State} {m : MethodId} {args : Array Value} {below : List Frame} {meth : Method} {c : Code} {A : Nat → Prop} {Q : State → Prop} {D : va_G} {cyI cyJ cyZ : ClassId} {a_this a_sets a_papers a_worths a_sign a_hallSign a_chosen a_upper a_lower : Nat} {v_heaps : Int32} {v_seats : Int32} {v_signs : Int32} {v_hallMany : Int32} {v_chosenSet : Int32} {v_paidSeats : Int32} {v_rhoUp : Int64} {v_rhoBy : Int64} {v_breachGroup : Int32} {v_papers : Nat → Int32} {v_sets : Nat → Int32} {v_worths : Nat → Int32} (C : kC p s m args c cX11_greedyOf 3 RX11 wsX11_greedyOf D (kTy cyI cyJ cyZ) A) :
    ∀ (n : Nat) (y1 : Int32) (y2 : Int32) (q : Int32) (H : Heap) (locs : List Loc) (ls : Array Slot), lp_X11_greedyOf_5 v_heaps v_chosenSet v_papers v_sets v_worths n y1 y2 = some q → (∀ (H : Heap) (locs : List Loc) (ls : Array Slot), va_P D vwCl (wd_X11_greedyOf cyI cyJ cyZ a_this a_sets a_papers a_worths a_sign a_hallSign a_chosen a_upper a_lower v_heaps v_seats v_signs v_hallMany v_chosenSet v_paidSeats v_rhoUp v_rhoBy v_breachGroup v_papers v_sets v_worths) H → va_D A (wd_X11_greedyOf cyI cyJ cyZ a_this a_sets a_papers a_worths a_sign a_hallSign a_chosen a_upper a_lower v_heaps v_seats v_signs v_hallMany v_chosenSet v_paidSeats v_rhoUp v_rhoBy v_breachGroup v_papers v_sets v_worths) → va_S A s.heap H locs → lv_has ls 3 [(1, .int q)] → W p l e rm_X11_greedyOf s m args below meth c H locs 0 0 Q (F0 m 62 ls [])) → va_P D vwCl (wd_X11_greedyOf cyI cyJ cyZ a_this a_sets a_papers a_worths a_sign a_hallSign a_chosen a_upper a_lower v_heaps v_seats v_signs v_hallMany v_chosenSet v_paidSeats v_rhoUp v_rhoBy v_breachGroup v_papers v_sets v_worths) H → va_D A (wd_X11_greedyOf cyI cyJ cyZ a_this a_sets a_papers a_worths a_sign a_hallSign a_chosen a_upper a_lower v_heaps v_seats v_signs v_hallMany v_chosenSet v_paidSeats v_rhoUp v_rhoBy v_breachGroup v_papers v_sets v_worths) → va_S A s.heap H locs → lv_has ls 3 [(0, .ref a_this), (1, .int y1), (2, .int y2)] → W p l e rm_X11_greedyOf s m args below meth c H locs 0 0 Q (F0 m 5 ls []) := by
  obtain ⟨hx, hb, hml, hown, hts, hK, hA⟩ := id C
  have iX11 : ∀ w ∈ u_ws RX11 TX11 17, w ∈ wsX11_greedyOf := by decide +kernel
  have fl76 := hts (.fieldLink RX11 76 "FairSeatsModel" "chosenSet" "I") (by decide +kernel)
  have cw70 := cwV (R := rm_X11_greedyOf) (rm := rm_X11_worthOf) 1 hts gX11_greedyOf_X11_worthOf rfl rfl rfl (by decide +kernel) ⟨Nat.le_of_ble_eq_true rfl, Nat.le_of_ble_eq_true rfl⟩
  have cw79 := cwV (R := rm_X11_greedyOf) (rm := rm_X11_isLeft) 1 hts gX11_greedyOf_X11_isLeft rfl rfl rfl (by decide +kernel) ⟨Nat.le_of_ble_eq_true rfl, Nat.le_of_ble_eq_true rfl⟩
  intro n
  induction n with
  | zero =>
    intro y1 y2 q H locs ls hf K hP hD hS hl
    rw [lp_X11_greedyOf_5] at hf
    cases hf
  | succ n ih =>
    intro y1 y2 q H locs ls hf K hP hD hS hl
    rw [lp_X11_greedyOf_5] at hf
    refine lv_iload_n hx hb dX11_greedyOf_5 rfl (lv_at hl 2 rfl) ?_
    refine lv_bipush (v := (8 : Int32)) hx hb dX11_greedyOf_6 (by decide) ?_
    refine lv_icmp_ge (tgt := 62) hx hb dX11_greedyOf_8 (by decide) (fun c1 => ?_) (fun c1 => ?_)
    · have hf := ob_pos c1 hf
      obtain rfl := Option.some.inj hf
      exact K _ _ _ hP hD hS (lv_sub hl [1] rfl)
    · have hf := ob_neg c1 hf
      refine lv_aload_n hx hb dX11_greedyOf_11 rfl (lv_at hl 0 rfl) ?_
      refine lv_iload_n hx hb dX11_greedyOf_12 rfl (lv_at hl 2 rfl) ?_
      obtain ⟨q2, hq2, hf⟩ := ob_bind hf
      refine k_Vz (wo := (wd_X11_greedyOf cyI cyJ cyZ a_this a_sets a_papers a_worths a_sign a_hallSign a_chosen a_upper a_lower v_heaps v_seats v_signs v_hallMany v_chosenSet v_paidSeats v_rhoUp v_rhoBy v_breachGroup v_papers v_sets v_worths)) (As := [.int y2]) (rest := []) C (c_X11_isLeft l D cyI cyJ cyZ a_this a_sets a_papers a_worths a_sign a_hallSign a_chosen a_upper a_lower v_heaps v_seats v_signs v_hallMany v_chosenSet v_paidSeats v_rhoUp v_rhoBy v_breachGroup y2 q2 hq2) cw79 hP hD hS [0] [1, 2, 3] [3, 0, 1, 2] rfl rfl rfl (by decide) 0 (ci := 10) rfl rfl rfl rfl rfl hl.1 (Nat.le_of_ble_eq_true rfl) dX11_greedyOf_13 ⟨Nat.zero_le _, Nat.zero_le _⟩ (fun H locs zq2 hP hD hS => ?_)
      refine lv_if_eq (tgt := 54) hx hb dX11_greedyOf_16 (by decide) (fun c3 => ?_) (fun c3 => ?_)
      · have hf := ob_pos c3 hf
        refine lv_iload_n hx hb dX11_greedyOf_54 rfl (lv_at hl 1 rfl) ?_
        refine lv_istore_n (lv' := [(1, .int y1), (0, .ref a_this), (2, .int y2)]) hx hb dX11_greedyOf_55 rfl hl (by decide) rfl (fun ls hl => ?_)
        refine lv_iinc (v := (y2 + (1 : Int32))) (lv' := [(2, .int (y2 + (1 : Int32))), (1, .int y1), (0, .ref a_this)]) hx hb dX11_greedyOf_56 hl (k := 2) rfl rfl (by decide) rfl (fun ls hl => ?_)
        refine lv_goto (tgt := 5) hx hb dX11_greedyOf_59 (by decide) ?_
        exact ih y1 (y2 + (1 : Int32)) _ _ _ _ hf K hP hD hS (lv_sub hl [2, 1, 0] rfl)
      · have hf := ob_neg c3 hf
        refine lv_iload_n hx hb dX11_greedyOf_19 rfl (lv_at hl 1 rfl) ?_
        refine lv_if_lt (tgt := 50) hx hb dX11_greedyOf_20 (by decide) (fun c4 => ?_) (fun c4 => ?_)
        · have hf := ob_pos c4 hf
          refine lv_iload_n hx hb dX11_greedyOf_50 rfl (lv_at hl 2 rfl) ?_
          refine lv_goto (tgt := 55) hx hb dX11_greedyOf_51 (by decide) ?_
          refine lv_istore_n (lv' := [(1, .int y2), (0, .ref a_this), (2, .int y2)]) hx hb dX11_greedyOf_55 rfl hl (by decide) rfl (fun ls hl => ?_)
          refine lv_iinc (v := (y2 + (1 : Int32))) (lv' := [(2, .int (y2 + (1 : Int32))), (1, .int y2), (0, .ref a_this)]) hx hb dX11_greedyOf_56 hl (k := 2) rfl rfl (by decide) rfl (fun ls hl => ?_)
          refine lv_goto (tgt := 5) hx hb dX11_greedyOf_59 (by decide) ?_
          exact ih y2 (y2 + (1 : Int32)) _ _ _ _ hf K hP hD hS (lv_sub hl [2, 1, 0] rfl)
        · have hf := ob_neg c4 hf
          refine lv_aload_n hx hb dX11_greedyOf_23 rfl (lv_at hl 0 rfl) ?_
          refine lv_aload_n hx hb dX11_greedyOf_24 rfl (lv_at hl 0 rfl) ?_
          refine va_get (D := D) (ci := 10) (v := .int v_chosenSet) (C := RX11) (T := TX11) (N := 17) hx hb hts iX11 hown hK hP 0 rfl rfl 10 (by decide) fl76 (fun _ h9 => h9) rfl dX11_greedyOf_25 ?_
          refine lv_iconst (v := (1 : Int32)) hx hb dX11_greedyOf_28 (by decide) ?_
          refine lv_iload_n hx hb dX11_greedyOf_29 rfl (lv_at hl 2 rfl) ?_
          refine lv_ishl hx hb dX11_greedyOf_30 ?_
          refine lv_ior hx hb dX11_greedyOf_31 ?_
          obtain ⟨q5, hq5, hf⟩ := ob_bind hf
          refine k_Vi (wo := (wd_X11_greedyOf cyI cyJ cyZ a_this a_sets a_papers a_worths a_sign a_hallSign a_chosen a_upper a_lower v_heaps v_seats v_signs v_hallMany v_chosenSet v_paidSeats v_rhoUp v_rhoBy v_breachGroup v_papers v_sets v_worths)) (As := [.int (v_chosenSet ||| ((1 : Int32) <<< (y2 &&& 31)))]) (rest := []) C (c_X11_worthOf l D cyI cyJ cyZ a_this a_sets a_papers a_worths a_sign a_hallSign a_chosen a_upper a_lower v_heaps v_seats v_signs v_hallMany v_chosenSet v_paidSeats v_rhoUp v_rhoBy v_breachGroup v_papers v_sets v_worths (v_chosenSet ||| ((1 : Int32) <<< (y2 &&& 31))) q5 hq5) cw70 hP hD hS [0, 1, 2, 3] [] [0, 1, 2, 3] rfl rfl rfl (by decide) 0 (ci := 10) rfl rfl rfl rfl rfl hl.1 (Nat.le_of_ble_eq_true rfl) dX11_greedyOf_32 ⟨Nat.zero_le _, Nat.zero_le _⟩ (fun H locs hP hD hS => ?_)
          refine lv_aload_n hx hb dX11_greedyOf_35 rfl (lv_at hl 0 rfl) ?_
          refine lv_aload_n hx hb dX11_greedyOf_36 rfl (lv_at hl 0 rfl) ?_
          refine va_get (D := D) (ci := 10) (v := .int v_chosenSet) (C := RX11) (T := TX11) (N := 17) hx hb hts iX11 hown hK hP 0 rfl rfl 10 (by decide) fl76 (fun _ h9 => h9) rfl dX11_greedyOf_37 ?_
          refine lv_iconst (v := (1 : Int32)) hx hb dX11_greedyOf_40 (by decide) ?_
          refine lv_iload_n hx hb dX11_greedyOf_41 rfl (lv_at hl 1 rfl) ?_
          refine lv_ishl hx hb dX11_greedyOf_42 ?_
          refine lv_ior hx hb dX11_greedyOf_43 ?_
          obtain ⟨q6, hq6, hf⟩ := ob_bind hf
          refine k_Vi (wo := (wd_X11_greedyOf cyI cyJ cyZ a_this a_sets a_papers a_worths a_sign a_hallSign a_chosen a_upper a_lower v_heaps v_seats v_signs v_hallMany v_chosenSet v_paidSeats v_rhoUp v_rhoBy v_breachGroup v_papers v_sets v_worths)) (As := [.int (v_chosenSet ||| ((1 : Int32) <<< (y1 &&& 31)))]) (rest := [.int q5]) C (c_X11_worthOf l D cyI cyJ cyZ a_this a_sets a_papers a_worths a_sign a_hallSign a_chosen a_upper a_lower v_heaps v_seats v_signs v_hallMany v_chosenSet v_paidSeats v_rhoUp v_rhoBy v_breachGroup v_papers v_sets v_worths (v_chosenSet ||| ((1 : Int32) <<< (y1 &&& 31))) q6 hq6) cw70 hP hD hS [0, 1, 2, 3] [] [0, 1, 2, 3] rfl rfl rfl (by decide) 0 (ci := 10) rfl rfl rfl rfl rfl hl.1 (Nat.le_of_ble_eq_true rfl) dX11_greedyOf_44 ⟨Nat.zero_le _, Nat.zero_le _⟩ (fun H locs hP hD hS => ?_)
          refine lv_icmp_le (tgt := 54) hx hb dX11_greedyOf_47 (by decide) (fun c7 => ?_) (fun c7 => ?_)
          · have hf := ob_pos c7 hf
            refine lv_iload_n hx hb dX11_greedyOf_54 rfl (lv_at hl 1 rfl) ?_
            refine lv_istore_n (lv' := [(1, .int y1), (0, .ref a_this), (2, .int y2)]) hx hb dX11_greedyOf_55 rfl hl (by decide) rfl (fun ls hl => ?_)
            refine lv_iinc (v := (y2 + (1 : Int32))) (lv' := [(2, .int (y2 + (1 : Int32))), (1, .int y1), (0, .ref a_this)]) hx hb dX11_greedyOf_56 hl (k := 2) rfl rfl (by decide) rfl (fun ls hl => ?_)
            refine lv_goto (tgt := 5) hx hb dX11_greedyOf_59 (by decide) ?_
            exact ih y1 (y2 + (1 : Int32)) _ _ _ _ hf K hP hD hS (lv_sub hl [2, 1, 0] rfl)
          · have hf := ob_neg c7 hf
            refine lv_iload_n hx hb dX11_greedyOf_50 rfl (lv_at hl 2 rfl) ?_
            refine lv_goto (tgt := 55) hx hb dX11_greedyOf_51 (by decide) ?_
            refine lv_istore_n (lv' := [(1, .int y2), (0, .ref a_this), (2, .int y2)]) hx hb dX11_greedyOf_55 rfl hl (by decide) rfl (fun ls hl => ?_)
            refine lv_iinc (v := (y2 + (1 : Int32))) (lv' := [(2, .int (y2 + (1 : Int32))), (1, .int y2), (0, .ref a_this)]) hx hb dX11_greedyOf_56 hl (k := 2) rfl rfl (by decide) rfl (fun ls hl => ?_)
            refine lv_goto (tgt := 5) hx hb dX11_greedyOf_59 (by decide) ?_
            exact ih y2 (y2 + (1 : Int32)) _ _ _ _ hf K hP hD hS (lv_sub hl [2, 1, 0] rfl)
set_option maxHeartbeats 4000000 in
set_option maxRecDepth 100000 in
theorem c_X11_greedyOf (l : Launch) (D : va_G) (cyI cyJ cyZ : ClassId) (a_this a_sets a_papers a_worths a_sign a_hallSign a_chosen a_upper a_lower : Nat) (v_heaps : Int32) (v_seats : Int32) (v_signs : Int32) (v_hallMany : Int32) (v_chosenSet : Int32) (v_paidSeats : Int32) (v_rhoUp : Int64) (v_rhoBy : Int64) (v_breachGroup : Int32) (v_papers : Nat → Int32) (v_sets : Nat → Int32) (v_worths : Nat → Int32) (q : Int32) (hf : f_X11_greedyOf v_heaps v_chosenSet v_papers v_sets v_worths = some q) : kMi l yX11_greedyOf wsX11_greedyOf rm_X11_greedyOf D (kTy cyI cyJ cyZ) [.ref a_this] (wd_X11_greedyOf cyI cyJ cyZ a_this a_sets a_papers a_worths a_sign a_hallSign a_chosen a_upper a_lower v_heaps v_seats v_signs v_hallMany v_chosenSet v_paidSeats v_rhoUp v_rhoBy v_breachGroup v_papers v_sets v_worths) (wd_X11_greedyOf cyI cyJ cyZ a_this a_sets a_papers a_worths a_sign a_hallSign a_chosen a_upper a_lower v_heaps v_seats v_signs v_hallMany v_chosenSet v_paidSeats v_rhoUp v_rhoBy v_breachGroup v_papers v_sets v_worths) q := by
  refine kMi_of (cc := cX11_greedyOf) (nL := 3) (own := RX11) (by decide) rfl rfl (Nat.le_of_ble_eq_true rfl) ?_
  intro p e s m below meth c A Q ls C hret hP hD hS hl
  have hl : lv_has ls 3 [(0, .ref a_this)] := hl
  unfold f_X11_greedyOf at hf
  obtain ⟨hx, hb, hml, hown, hts, hK, hA⟩ := id C
  refine lv_bipush (v := (-6 : Int32)) hx hb dX11_greedyOf_0 (by decide) ?_
  refine lv_istore_n (lv' := [(1, .int (-6 : Int32)), (0, .ref a_this)]) hx hb dX11_greedyOf_2 rfl hl (by decide) rfl (fun ls hl => ?_)
  refine lv_iconst (v := (0 : Int32)) hx hb dX11_greedyOf_3 (by decide) ?_
  refine lv_istore_n (lv' := [(2, .int (0 : Int32)), (1, .int (-6 : Int32)), (0, .ref a_this)]) hx hb dX11_greedyOf_4 rfl hl (by decide) rfl (fun ls hl => ?_)
  obtain ⟨q8, hq8, hf⟩ := ob_bind hf
  refine wl_X11_greedyOf_5 C FU (-6 : Int32) (0 : Int32) _ _ _ _ hq8 (fun H locs ls hP hD hS hl => ?_) hP hD hS (lv_sub hl [2, 1, 0] rfl)
  refine lv_iload_n hx hb dX11_greedyOf_62 rfl (lv_at hl 0 rfl) ?_
  obtain rfl := Option.some.inj hf
  exact hret _ _ _ _ dX11_greedyOf_63 hP hD hS
abbrev rm_X11_carry : Room := { frames := 0, cells := 0, slots := 0, locals := 0 }
abbrev wd_X11_carry (cyI cyJ cyZ : ClassId) (a_this a_sets a_papers a_worths a_sign a_hallSign a_chosen a_upper a_lower : Nat) (v_heaps : Int32) (v_seats : Int32) (v_signs : Int32) (v_hallMany : Int32) (v_chosenSet : Int32) (v_paidSeats : Int32) (v_rhoUp : Int64) (v_rhoBy : Int64) (v_breachGroup : Int32) (v_lower : Nat → Int64) (v_upper : Nat → Int64) : va_W := [(a_this, .inr (10, [.int v_heaps, .ref a_sets, .ref a_papers, .int v_seats, .ref a_worths, .int v_signs, .ref a_sign, .int v_hallMany, .ref a_hallSign, .ref a_chosen, .int v_chosenSet, .int v_paidSeats, .ref a_upper, .ref a_lower, .long v_rhoUp, .long v_rhoBy, .int v_breachGroup])), (a_lower, .inl (cyJ, 5, .inr (.inl v_lower))), (a_upper, .inl (cyJ, 35, .inr (.inl v_upper)))]
def lp_X11_carry_19 (y1 : Int32) (y2 : Int64) : Nat → Int32 → (Nat → Int64) → Option ((Nat → Int64))
  | 0, _, _ => none
  | n + 1, y4, v_upper => (if (7 : Int32) ≤ y4 then some v_upper else (if ob_in (((7 : Int32) * y1) + y4) 35 = true then (if ob_in (((7 : Int32) * (y1 + (1 : Int32))) + y4) 35 = true then lp_X11_carry_19 y1 y2 n (y4 + (1 : Int32)) (vp_updL v_upper (((7 : Int32) * (y1 + (1 : Int32))) + y4).toNatClampNeg ((v_upper (((7 : Int32) * y1) + y4).toNatClampNeg) * y2)) else none) else none))
def f_X11_carry (x1 : Int32) (x2 : Int64) (v_lower : Nat → Int64) (v_upper : Nat → Int64) : Option ((Nat → Int64) × (Nat → Int64)) := (if ob_in x1 5 = true then (if ob_in (x1 + (1 : Int32)) 5 = true then (lp_X11_carry_19 x1 x2 FU (0 : Int32) v_upper).bind (fun q6 => some ((vp_updL v_lower (x1 + (1 : Int32)).toNatClampNeg ((v_lower x1.toNatClampNeg) * x2)), q6)) else none) else none)
set_option maxHeartbeats 4000000 in
set_option maxRecDepth 100000 in
theorem wl_X11_carry_19 {p : Program} {l : Launch} {e : Env} {s : State} {m : MethodId} {args : Array Value} {below : List Frame} {meth : Method} {c : Code} {A : Nat → Prop} {Q : State → Prop} {D : va_G} {cyI cyJ cyZ : ClassId} {a_this a_sets a_papers a_worths a_sign a_hallSign a_chosen a_upper a_lower : Nat} {y1 : Int32} {y2 : Int64} {v_heaps : Int32} {v_seats : Int32} {v_signs : Int32} {v_hallMany : Int32} {v_chosenSet : Int32} {v_paidSeats : Int32} {v_rhoUp : Int64} {v_rhoBy : Int64} {v_breachGroup : Int32} {v_lower : Nat → Int64} (C : kC p s m args c cX11_carry 5 RX11 wsX11_carry D (kTy cyI cyJ cyZ) A) :
    ∀ (n : Nat) (y4 : Int32) (v_upper : Nat → Int64) (q : (Nat → Int64)) (H : Heap) (locs : List Loc) (ls : Array Slot), lp_X11_carry_19 y1 y2 n y4 v_upper = some q → (∀ (H : Heap) (locs : List Loc) (ls : Array Slot), va_P D vwCl (wd_X11_carry cyI cyJ cyZ a_this a_sets a_papers a_worths a_sign a_hallSign a_chosen a_upper a_lower v_heaps v_seats v_signs v_hallMany v_chosenSet v_paidSeats v_rhoUp v_rhoBy v_breachGroup v_lower q) H → va_D A (wd_X11_carry cyI cyJ cyZ a_this a_sets a_papers a_worths a_sign a_hallSign a_chosen a_upper a_lower v_heaps v_seats v_signs v_hallMany v_chosenSet v_paidSeats v_rhoUp v_rhoBy v_breachGroup v_lower q) → va_S A s.heap H locs → lv_has ls 5 [] → W p l e rm_X11_carry s m args below meth c H locs 0 0 Q (F0 m 60 ls [])) → va_P D vwCl (wd_X11_carry cyI cyJ cyZ a_this a_sets a_papers a_worths a_sign a_hallSign a_chosen a_upper a_lower v_heaps v_seats v_signs v_hallMany v_chosenSet v_paidSeats v_rhoUp v_rhoBy v_breachGroup v_lower v_upper) H → va_D A (wd_X11_carry cyI cyJ cyZ a_this a_sets a_papers a_worths a_sign a_hallSign a_chosen a_upper a_lower v_heaps v_seats v_signs v_hallMany v_chosenSet v_paidSeats v_rhoUp v_rhoBy v_breachGroup v_lower v_upper) → va_S A s.heap H locs → lv_has ls 5 [(0, .ref a_this), (1, .int y1), (2, .long y2), (4, .int y4)] → W p l e rm_X11_carry s m args below meth c H locs 0 0 Q (F0 m 19 ls []) := by
  obtain ⟨hx, hb, hml, hown, hts, hK, hA⟩ := id C
  have iX11 : ∀ w ∈ u_ws RX11 TX11 17, w ∈ wsX11_carry := by decide +kernel
  have fl32 := hts (.fieldLink RX11 32 "FairSeatsModel" "upper" "[J") (by decide +kernel)
  intro n
  induction n with
  | zero =>
    intro y4 v_upper q H locs ls hf K hP hD hS hl
    rw [lp_X11_carry_19] at hf
    cases hf
  | succ n ih =>
    intro y4 v_upper q H locs ls hf K hP hD hS hl
    rw [lp_X11_carry_19] at hf
    refine lv_iload hx hb dX11_carry_19 (lv_at hl 3 rfl) ?_
    refine lv_bipush (v := (7 : Int32)) hx hb dX11_carry_21 (by decide) ?_
    refine lv_icmp_ge (tgt := 60) hx hb dX11_carry_23 (by decide) (fun c3 => ?_) (fun c3 => ?_)
    · have hf := ob_pos c3 hf
      obtain rfl := Option.some.inj hf
      exact K _ _ _ hP hD hS (lv_sub hl [] rfl)
    · have hf := ob_neg c3 hf
      refine lv_aload_n hx hb dX11_carry_26 rfl (lv_at hl 0 rfl) ?_
      refine va_get (D := D) (ci := 10) (v := .ref a_upper) (C := RX11) (T := TX11) (N := 17) hx hb hts iX11 hown hK hP 0 rfl rfl 12 (by decide) fl32 (fun _ h9 => h9) rfl dX11_carry_27 ?_
      refine lv_bipush (v := (7 : Int32)) hx hb dX11_carry_30 (by decide) ?_
      refine lv_iload_n hx hb dX11_carry_32 rfl (lv_at hl 1 rfl) ?_
      refine lv_iconst (v := (1 : Int32)) hx hb dX11_carry_33 (by decide) ?_
      refine lv_iadd hx hb dX11_carry_34 ?_
      refine lv_imul hx hb dX11_carry_35 ?_
      refine lv_iload hx hb dX11_carry_36 (lv_at hl 3 rfl) ?_
      refine lv_iadd hx hb dX11_carry_38 ?_
      refine lv_aload_n hx hb dX11_carry_39 rfl (lv_at hl 0 rfl) ?_
      refine va_get (D := D) (ci := 10) (v := .ref a_upper) (C := RX11) (T := TX11) (N := 17) hx hb hts iX11 hown hK hP 0 rfl rfl 12 (by decide) fl32 (fun _ h9 => h9) rfl dX11_carry_40 ?_
      refine lv_bipush (v := (7 : Int32)) hx hb dX11_carry_43 (by decide) ?_
      refine lv_iload_n hx hb dX11_carry_45 rfl (lv_at hl 1 rfl) ?_
      refine lv_imul hx hb dX11_carry_46 ?_
      refine lv_iload hx hb dX11_carry_47 (lv_at hl 3 rfl) ?_
      refine lv_iadd hx hb dX11_carry_49 ?_
      obtain ⟨h4, hf⟩ := og_in hf
      refine va_lald hx hb hK hP 2 1 rfl rfl h4 dX11_carry_50 ?_
      refine lv_lload_n hx hb dX11_carry_51 rfl (lv_at hl 2 rfl) ?_
      refine lv_lmul hx hb dX11_carry_52 ?_
      obtain ⟨h5, hf⟩ := og_in hf
      refine va_last hx hb hK hP hD hS 2 1 rfl rfl h5 dX11_carry_53 (fun H locs hP hD hS => ?_)
      have hP : va_P D vwCl (wd_X11_carry cyI cyJ cyZ a_this a_sets a_papers a_worths a_sign a_hallSign a_chosen a_upper a_lower v_heaps v_seats v_signs v_hallMany v_chosenSet v_paidSeats v_rhoUp v_rhoBy v_breachGroup v_lower (vp_updL v_upper (((7 : Int32) * (y1 + (1 : Int32))) + y4).toNatClampNeg ((v_upper (((7 : Int32) * y1) + y4).toNatClampNeg) * y2))) H := hP
      have hD : va_D A (wd_X11_carry cyI cyJ cyZ a_this a_sets a_papers a_worths a_sign a_hallSign a_chosen a_upper a_lower v_heaps v_seats v_signs v_hallMany v_chosenSet v_paidSeats v_rhoUp v_rhoBy v_breachGroup v_lower (vp_updL v_upper (((7 : Int32) * (y1 + (1 : Int32))) + y4).toNatClampNeg ((v_upper (((7 : Int32) * y1) + y4).toNatClampNeg) * y2))) := hD
      refine lv_iinc (v := (y4 + (1 : Int32))) (lv' := [(4, .int (y4 + (1 : Int32))), (0, .ref a_this), (1, .int y1), (2, .long y2)]) hx hb dX11_carry_54 hl (k := 3) rfl rfl (by decide) rfl (fun ls hl => ?_)
      refine lv_goto (tgt := 19) hx hb dX11_carry_57 (by decide) ?_
      exact ih (y4 + (1 : Int32)) (vp_updL v_upper (((7 : Int32) * (y1 + (1 : Int32))) + y4).toNatClampNeg ((v_upper (((7 : Int32) * y1) + y4).toNatClampNeg) * y2)) _ _ _ _ hf K hP hD hS (lv_sub hl [1, 2, 3, 0] rfl)
set_option maxHeartbeats 4000000 in
set_option maxRecDepth 100000 in
theorem c_X11_carry (l : Launch) (D : va_G) (cyI cyJ cyZ : ClassId) (a_this a_sets a_papers a_worths a_sign a_hallSign a_chosen a_upper a_lower : Nat) (v_heaps : Int32) (v_seats : Int32) (v_signs : Int32) (v_hallMany : Int32) (v_chosenSet : Int32) (v_paidSeats : Int32) (v_rhoUp : Int64) (v_rhoBy : Int64) (v_breachGroup : Int32) (v_lower : Nat → Int64) (v_upper : Nat → Int64) (x1 : Int32) (x2 : Int64) (q : (Nat → Int64) × (Nat → Int64)) (hf : f_X11_carry x1 x2 v_lower v_upper = some q) : kMv l yX11_carry wsX11_carry rm_X11_carry D (kTy cyI cyJ cyZ) [.ref a_this, .int x1, .long x2] (wd_X11_carry cyI cyJ cyZ a_this a_sets a_papers a_worths a_sign a_hallSign a_chosen a_upper a_lower v_heaps v_seats v_signs v_hallMany v_chosenSet v_paidSeats v_rhoUp v_rhoBy v_breachGroup v_lower v_upper) (wd_X11_carry cyI cyJ cyZ a_this a_sets a_papers a_worths a_sign a_hallSign a_chosen a_upper a_lower v_heaps v_seats v_signs v_hallMany v_chosenSet v_paidSeats v_rhoUp v_rhoBy v_breachGroup q.1 q.2) := by
  refine kMv_of (cc := cX11_carry) (nL := 5) (own := RX11) (by decide) rfl rfl (Nat.le_of_ble_eq_true rfl) ?_
  intro p e s m below meth c A Q ls C hret hP hD hS hl
  have hl : lv_has ls 5 [(0, .ref a_this), (1, .int x1), (2, .long x2)] := hl
  unfold f_X11_carry at hf
  obtain ⟨hx, hb, hml, hown, hts, hK, hA⟩ := id C
  have iX11 : ∀ w ∈ u_ws RX11 TX11 17, w ∈ wsX11_carry := by decide +kernel
  have fl36 := hts (.fieldLink RX11 36 "FairSeatsModel" "lower" "[J") (by decide +kernel)
  refine lv_aload_n hx hb dX11_carry_0 rfl (lv_at hl 0 rfl) ?_
  refine va_get (D := D) (ci := 10) (v := .ref a_lower) (C := RX11) (T := TX11) (N := 17) hx hb hts iX11 hown hK hP 0 rfl rfl 13 (by decide) fl36 (fun _ h9 => h9) rfl dX11_carry_1 ?_
  refine lv_iload_n hx hb dX11_carry_4 rfl (lv_at hl 1 rfl) ?_
  refine lv_iconst (v := (1 : Int32)) hx hb dX11_carry_5 (by decide) ?_
  refine lv_iadd hx hb dX11_carry_6 ?_
  refine lv_aload_n hx hb dX11_carry_7 rfl (lv_at hl 0 rfl) ?_
  refine va_get (D := D) (ci := 10) (v := .ref a_lower) (C := RX11) (T := TX11) (N := 17) hx hb hts iX11 hown hK hP 0 rfl rfl 13 (by decide) fl36 (fun _ h9 => h9) rfl dX11_carry_8 ?_
  refine lv_iload_n hx hb dX11_carry_11 rfl (lv_at hl 1 rfl) ?_
  obtain ⟨h1, hf⟩ := og_in hf
  refine va_lald hx hb hK hP 1 1 rfl rfl h1 dX11_carry_12 ?_
  refine lv_lload_n hx hb dX11_carry_13 rfl (lv_at hl 2 rfl) ?_
  refine lv_lmul hx hb dX11_carry_14 ?_
  obtain ⟨h2, hf⟩ := og_in hf
  refine va_last hx hb hK hP hD hS 1 1 rfl rfl h2 dX11_carry_15 (fun H locs hP hD hS => ?_)
  have hP : va_P D vwCl (wd_X11_carry cyI cyJ cyZ a_this a_sets a_papers a_worths a_sign a_hallSign a_chosen a_upper a_lower v_heaps v_seats v_signs v_hallMany v_chosenSet v_paidSeats v_rhoUp v_rhoBy v_breachGroup (vp_updL v_lower (x1 + (1 : Int32)).toNatClampNeg ((v_lower x1.toNatClampNeg) * x2)) v_upper) H := hP
  have hD : va_D A (wd_X11_carry cyI cyJ cyZ a_this a_sets a_papers a_worths a_sign a_hallSign a_chosen a_upper a_lower v_heaps v_seats v_signs v_hallMany v_chosenSet v_paidSeats v_rhoUp v_rhoBy v_breachGroup (vp_updL v_lower (x1 + (1 : Int32)).toNatClampNeg ((v_lower x1.toNatClampNeg) * x2)) v_upper) := hD
  refine lv_iconst (v := (0 : Int32)) hx hb dX11_carry_16 (by decide) ?_
  refine lv_istore (lv' := [(4, .int (0 : Int32)), (0, .ref a_this), (1, .int x1), (2, .long x2)]) hx hb dX11_carry_17 hl (by decide) rfl (fun ls hl => ?_)
  obtain ⟨q6, hq6, hf⟩ := ob_bind hf
  refine wl_X11_carry_19 C FU (0 : Int32) v_upper _ _ _ _ hq6 (fun H locs ls hP hD hS hl => ?_) hP hD hS (lv_sub hl [1, 2, 3, 0] rfl)
  obtain rfl := Option.some.inj hf
  exact hret _ _ _ _ dX11_carry_60 hP hD hS
