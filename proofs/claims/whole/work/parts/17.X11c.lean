abbrev rm_X11_loadOne : Room := { frames := 2, cells := 0, slots := 0, locals := 45 }
abbrev wd_X11_loadOne (cyI cyJ cyZ : ClassId) (a_this a_sets a_papers a_worths a_sign a_hallSign a_chosen a_upper a_lower : Nat) (v_heaps : Int32) (v_seats : Int32) (v_signs : Int32) (v_hallMany : Int32) (v_chosenSet : Int32) (v_paidSeats : Int32) (v_rhoUp : Int64) (v_rhoBy : Int64) (v_breachGroup : Int32) (v_chosen : Nat → Int32) (v_lower : Nat → Int64) (v_papers : Nat → Int32) (v_sets : Nat → Int32) (v_upper : Nat → Int64) : va_W := [(a_this, .inr (10, [.int v_heaps, .ref a_sets, .ref a_papers, .int v_seats, .ref a_worths, .int v_signs, .ref a_sign, .int v_hallMany, .ref a_hallSign, .ref a_chosen, .int v_chosenSet, .int v_paidSeats, .ref a_upper, .ref a_lower, .long v_rhoUp, .long v_rhoBy, .int v_breachGroup])), (a_chosen, .inl (cyI, 8, .inl v_chosen)), (a_lower, .inl (cyJ, 5, .inr (.inl v_lower))), (a_papers, .inl (cyI, 7, .inl v_papers)), (a_sets, .inl (cyI, 7, .inl v_sets)), (a_upper, .inl (cyJ, 35, .inr (.inl v_upper)))]
def lp_X11_loadOne_54 (y1 : Int32) (y2 : Int32) (y3 : Int64) (y5 : Int64) (y7 : Int32) (y8 : Int64) (v_heaps : Int32) (v_papers : Nat → Int32) (v_sets : Nat → Int32) (v_upper : Nat → Int64) : Nat → Int64 → Int32 → Option (Int64)
  | 0, _, _ => none
  | n + 1, y10, y12 => (if v_heaps ≤ y12 then some y10 else (if ob_in y12 7 = true then (if ob_in y12 7 = true then (if ob_in (((7 : Int32) * y1) + y12) 35 = true then ob_let (y10 + ((((((v_sets y12.toNatClampNeg) >>> (y7 &&& 31)) &&& (1 : Int32)) * (v_papers y12.toNatClampNeg))).toInt64 * (v_upper (((7 : Int32) * y1) + y12).toNatClampNeg))) (fun (b11 : Int64) => lp_X11_loadOne_54 y1 y2 y3 y5 y7 y8 v_heaps v_papers v_sets v_upper n b11 (y12 + (1 : Int32))) else none) else none) else none))
def lp_X11_loadOne_11 (y1 : Int32) (v_heaps : Int32) (v_chosenSet : Int32) (v_lower : Nat → Int64) (v_papers : Nat → Int32) (v_sets : Nat → Int32) (v_upper : Nat → Int64) : Nat → Int32 → Int64 → Int64 → Int32 → Option (Int32 × Int64 × Int64)
  | 0, _, _, _, _ => none
  | n + 1, y2, y3, y5, y7 => (if (8 : Int32) ≤ y7 then some (y2, y3, y5) else (f_X11_papersOf y7 v_heaps v_papers v_sets).bind (fun q2 => (f_X11_isLeft y7 v_chosenSet).bind (fun q3 => (if q3 = 0 then lp_X11_loadOne_11 y1 v_heaps v_chosenSet v_lower v_papers v_sets v_upper n y2 y3 y5 (y7 + (1 : Int32)) else (if (lg_cmp ((q2).toInt64) (0 : Int64)) ≤ 0 then lp_X11_loadOne_11 y1 v_heaps v_chosenSet v_lower v_papers v_sets v_upper n y2 y3 y5 (y7 + (1 : Int32)) else (if ob_in y1 5 = true then (lp_X11_loadOne_54 y1 y2 y3 y5 y7 ((q2).toInt64) v_heaps v_papers v_sets v_upper FU (v_lower y1.toNatClampNeg) (0 : Int32)).bind (fun q12 => (if y2 < 0 then lp_X11_loadOne_11 y1 v_heaps v_chosenSet v_lower v_papers v_sets v_upper n y7 q12 ((q2).toInt64) (y7 + (1 : Int32)) else (if 0 ≤ (lg_cmp (q12 * y5) (y3 * (q2).toInt64)) then lp_X11_loadOne_11 y1 v_heaps v_chosenSet v_lower v_papers v_sets v_upper n y2 y3 y5 (y7 + (1 : Int32)) else lp_X11_loadOne_11 y1 v_heaps v_chosenSet v_lower v_papers v_sets v_upper n y7 q12 ((q2).toInt64) (y7 + (1 : Int32))))) else none))))))
def lp_X11_loadOne_151 (y1 : Int32) (y2 : Int32) (y3 : Int64) (v_heaps : Int32) (v_sets : Nat → Int32) : Nat → Int32 → (Nat → Int64) → Option ((Nat → Int64))
  | 0, _, _ => none
  | n + 1, y7, v_upper => (if v_heaps ≤ y7 then some v_upper else (if y2 < 0 then some v_upper else (if ob_in y7 7 = true then (if (((v_sets y7.toNatClampNeg) >>> (y2 &&& 31)) &&& (1 : Int32)) = (1 : Int32) then (if ob_in (((7 : Int32) * (y1 + (1 : Int32))) + y7) 35 = true then lp_X11_loadOne_151 y1 y2 y3 v_heaps v_sets n (y7 + (1 : Int32)) (vp_updL v_upper (((7 : Int32) * (y1 + (1 : Int32))) + y7).toNatClampNeg y3) else none) else (if ob_in (((7 : Int32) * (y1 + (1 : Int32))) + y7) 35 = true then (if ob_in (((7 : Int32) * (y1 + (1 : Int32))) + y7) 35 = true then lp_X11_loadOne_151 y1 y2 y3 v_heaps v_sets n (y7 + (1 : Int32)) (vp_updL v_upper (((7 : Int32) * (y1 + (1 : Int32))) + y7).toNatClampNeg (v_upper (((7 : Int32) * (y1 + (1 : Int32))) + y7).toNatClampNeg)) else none) else none)) else none)))
def f_X11_loadOne (x1 : Int32) (v_heaps : Int32) (v_chosenSet : Int32) (v_chosen : Nat → Int32) (v_lower : Nat → Int64) (v_papers : Nat → Int32) (v_sets : Nat → Int32) (v_upper : Nat → Int64) : Option (Int32 × (Nat → Int32) × (Nat → Int64) × (Nat → Int64)) := (lp_X11_loadOne_11 x1 v_heaps v_chosenSet v_lower v_papers v_sets v_upper FU (-6 : Int32) (0 : Int64) (1 : Int64) (0 : Int32)).bind (fun q15 => (f_X11_carry x1 q15.2.2 v_lower v_upper).bind (fun q16 => (lp_X11_loadOne_151 x1 q15.1 q15.2.1 v_heaps v_sets FU (0 : Int32) q16.2).bind (fun q24 => (if 0 ≤ q15.1 then (f_X11_pick x1 q15.1 v_chosenSet v_chosen).bind (fun q26 => some (q26.1, q26.2, q16.1, q24)) else (f_X11_mostOf v_heaps v_chosenSet v_papers v_sets).bind (fun q27 => (f_X11_pick x1 q27 v_chosenSet v_chosen).bind (fun q28 => some (q28.1, q28.2, q16.1, q24)))))))
set_option maxHeartbeats 4000000 in
set_option maxRecDepth 100000 in
theorem wl_X11_loadOne_54 {p : Program} {l : Launch} {e : Env} {s : State} {m : MethodId} {args : Array Value} {below : List Frame} {meth : Method} {c : Code} {A : Nat → Prop} {Q : State → Prop} {D : va_G} {cyI cyJ cyZ : ClassId} {a_this a_sets a_papers a_worths a_sign a_hallSign a_chosen a_upper a_lower : Nat} {y1 : Int32} {y2 : Int32} {y3 : Int64} {y5 : Int64} {y7 : Int32} {y8 : Int64} {v_heaps : Int32} {v_seats : Int32} {v_signs : Int32} {v_hallMany : Int32} {v_chosenSet : Int32} {v_paidSeats : Int32} {v_rhoUp : Int64} {v_rhoBy : Int64} {v_breachGroup : Int32} {v_chosen : Nat → Int32} {v_lower : Nat → Int64} {v_papers : Nat → Int32} {v_sets : Nat → Int32} {v_upper : Nat → Int64} (C : kC p s m args c cX11_loadOne 13 RX11 wsX11_loadOne D (kTy cyI cyJ cyZ) A) :
    ∀ (n : Nat) (y10 : Int64) (y12 : Int32) (q : Int64) (H : Heap) (locs : List Loc) (ls : Array Slot), lp_X11_loadOne_54 y1 y2 y3 y5 y7 y8 v_heaps v_papers v_sets v_upper n y10 y12 = some q → (∀ (H : Heap) (locs : List Loc) (ls : Array Slot), va_P D vwCl (wd_X11_loadOne cyI cyJ cyZ a_this a_sets a_papers a_worths a_sign a_hallSign a_chosen a_upper a_lower v_heaps v_seats v_signs v_hallMany v_chosenSet v_paidSeats v_rhoUp v_rhoBy v_breachGroup v_chosen v_lower v_papers v_sets v_upper) H → va_D A (wd_X11_loadOne cyI cyJ cyZ a_this a_sets a_papers a_worths a_sign a_hallSign a_chosen a_upper a_lower v_heaps v_seats v_signs v_hallMany v_chosenSet v_paidSeats v_rhoUp v_rhoBy v_breachGroup v_chosen v_lower v_papers v_sets v_upper) → va_S A s.heap H locs → lv_has ls 13 [(0, .ref a_this), (1, .int y1), (2, .int y2), (3, .long y3), (5, .long y5), (7, .int y7), (8, .long y8), (10, .long q)] → W p l e rm_X11_loadOne s m args below meth c H locs 0 0 Q (F0 m 108 ls [])) → va_P D vwCl (wd_X11_loadOne cyI cyJ cyZ a_this a_sets a_papers a_worths a_sign a_hallSign a_chosen a_upper a_lower v_heaps v_seats v_signs v_hallMany v_chosenSet v_paidSeats v_rhoUp v_rhoBy v_breachGroup v_chosen v_lower v_papers v_sets v_upper) H → va_D A (wd_X11_loadOne cyI cyJ cyZ a_this a_sets a_papers a_worths a_sign a_hallSign a_chosen a_upper a_lower v_heaps v_seats v_signs v_hallMany v_chosenSet v_paidSeats v_rhoUp v_rhoBy v_breachGroup v_chosen v_lower v_papers v_sets v_upper) → va_S A s.heap H locs → lv_has ls 13 [(0, .ref a_this), (1, .int y1), (2, .int y2), (3, .long y3), (5, .long y5), (7, .int y7), (8, .long y8), (10, .long y10), (12, .int y12)] → W p l e rm_X11_loadOne s m args below meth c H locs 0 0 Q (F0 m 54 ls []) := by
  obtain ⟨hx, hb, hml, hown, hts, hK, hA⟩ := id C
  have iX11 : ∀ w ∈ u_ws RX11 TX11 17, w ∈ wsX11_loadOne := by decide +kernel
  have fl7 := hts (.fieldLink RX11 7 "FairSeatsModel" "sets" "[I") (by decide +kernel)
  have fl13 := hts (.fieldLink RX11 13 "FairSeatsModel" "papers" "[I") (by decide +kernel)
  have fl32 := hts (.fieldLink RX11 32 "FairSeatsModel" "upper" "[J") (by decide +kernel)
  have fl39 := hts (.fieldLink RX11 39 "FairSeatsModel" "heaps" "I") (by decide +kernel)
  intro n
  induction n with
  | zero =>
    intro y10 y12 q H locs ls hf K hP hD hS hl
    rw [lp_X11_loadOne_54] at hf
    cases hf
  | succ n ih =>
    intro y10 y12 q H locs ls hf K hP hD hS hl
    rw [lp_X11_loadOne_54] at hf
    refine lv_iload hx hb dX11_loadOne_54 (lv_at hl 8 rfl) ?_
    refine lv_aload_n hx hb dX11_loadOne_56 rfl (lv_at hl 0 rfl) ?_
    refine va_get (D := D) (ci := 10) (v := .int v_heaps) (C := RX11) (T := TX11) (N := 17) hx hb hts iX11 hown hK hP 0 rfl rfl 0 (by decide) fl39 (fun _ h9 => h9) rfl dX11_loadOne_57 ?_
    refine lv_icmp_ge (tgt := 108) hx hb dX11_loadOne_60 (by decide) (fun c7 => ?_) (fun c7 => ?_)
    · have hf := ob_pos c7 hf
      obtain rfl := Option.some.inj hf
      exact K _ _ _ hP hD hS (lv_sub hl [0, 1, 2, 3, 4, 5, 6, 7] rfl)
    · have hf := ob_neg c7 hf
      refine lv_lload hx hb dX11_loadOne_63 (lv_at hl 7 rfl) ?_
      refine lv_aload_n hx hb dX11_loadOne_65 rfl (lv_at hl 0 rfl) ?_
      refine va_get (D := D) (ci := 10) (v := .ref a_sets) (C := RX11) (T := TX11) (N := 17) hx hb hts iX11 hown hK hP 0 rfl rfl 1 (by decide) fl7 (fun _ h9 => h9) rfl dX11_loadOne_66 ?_
      refine lv_iload hx hb dX11_loadOne_69 (lv_at hl 8 rfl) ?_
      obtain ⟨h8, hf⟩ := og_in hf
      refine va_iald hx hb hK hP 4 0 rfl rfl h8 dX11_loadOne_71 ?_
      refine lv_iload hx hb dX11_loadOne_72 (lv_at hl 5 rfl) ?_
      refine lv_ishr hx hb dX11_loadOne_74 ?_
      refine lv_iconst (v := (1 : Int32)) hx hb dX11_loadOne_75 (by decide) ?_
      refine lv_iand hx hb dX11_loadOne_76 ?_
      refine lv_aload_n hx hb dX11_loadOne_77 rfl (lv_at hl 0 rfl) ?_
      refine va_get (D := D) (ci := 10) (v := .ref a_papers) (C := RX11) (T := TX11) (N := 17) hx hb hts iX11 hown hK hP 0 rfl rfl 2 (by decide) fl13 (fun _ h9 => h9) rfl dX11_loadOne_78 ?_
      refine lv_iload hx hb dX11_loadOne_81 (lv_at hl 8 rfl) ?_
      obtain ⟨h9, hf⟩ := og_in hf
      refine va_iald hx hb hK hP 3 0 rfl rfl h9 dX11_loadOne_83 ?_
      refine lv_imul hx hb dX11_loadOne_84 ?_
      refine lv_i2l (v := (((((v_sets y12.toNatClampNeg) >>> (y7 &&& 31)) &&& (1 : Int32)) * (v_papers y12.toNatClampNeg))).toInt64) hx hb dX11_loadOne_85 rfl ?_
      refine lv_aload_n hx hb dX11_loadOne_86 rfl (lv_at hl 0 rfl) ?_
      refine va_get (D := D) (ci := 10) (v := .ref a_upper) (C := RX11) (T := TX11) (N := 17) hx hb hts iX11 hown hK hP 0 rfl rfl 12 (by decide) fl32 (fun _ h9 => h9) rfl dX11_loadOne_87 ?_
      refine lv_bipush (v := (7 : Int32)) hx hb dX11_loadOne_90 (by decide) ?_
      refine lv_iload_n hx hb dX11_loadOne_92 rfl (lv_at hl 1 rfl) ?_
      refine lv_imul hx hb dX11_loadOne_93 ?_
      refine lv_iload hx hb dX11_loadOne_94 (lv_at hl 8 rfl) ?_
      refine lv_iadd hx hb dX11_loadOne_96 ?_
      obtain ⟨h10, hf⟩ := og_in hf
      refine va_lald hx hb hK hP 5 1 rfl rfl h10 dX11_loadOne_97 ?_
      refine lv_lmul hx hb dX11_loadOne_98 ?_
      refine lv_ladd hx hb dX11_loadOne_99 ?_
      obtain ⟨b11, eb11, hf⟩ := ob_letE hf
      refine lv_topl (fun t9 e9 => ?_)
      obtain rfl : b11 = t9 := eb11.trans e9.symm
      refine lv_lstore (lv' := [(10, .long b11), (0, .ref a_this), (1, .int y1), (2, .int y2), (3, .long y3), (5, .long y5), (7, .int y7), (8, .long y8), (12, .int y12)]) hx hb dX11_loadOne_100 hl (by decide) rfl (fun ls hl => ?_)
      refine lv_iinc (v := (y12 + (1 : Int32))) (lv' := [(12, .int (y12 + (1 : Int32))), (10, .long b11), (0, .ref a_this), (1, .int y1), (2, .int y2), (3, .long y3), (5, .long y5), (7, .int y7), (8, .long y8)]) hx hb dX11_loadOne_102 hl (k := 8) rfl rfl (by decide) rfl (fun ls hl => ?_)
      refine lv_goto (tgt := 54) hx hb dX11_loadOne_105 (by decide) ?_
      exact ih b11 (y12 + (1 : Int32)) _ _ _ _ hf K hP hD hS (lv_sub hl [2, 3, 4, 5, 6, 7, 8, 1, 0] rfl)
set_option maxHeartbeats 4000000 in
set_option maxRecDepth 100000 in
theorem wl_X11_loadOne_11 {p : Program} {l : Launch} {e : Env} {s : State} {m : MethodId} {args : Array Value} {below : List Frame} {meth : Method} {c : Code} {A : Nat → Prop} {Q : State → Prop} {D : va_G} {cyI cyJ cyZ : ClassId} {a_this a_sets a_papers a_worths a_sign a_hallSign a_chosen a_upper a_lower : Nat} {y1 : Int32} {v_heaps : Int32} {v_seats : Int32} {v_signs : Int32} {v_hallMany : Int32} {v_chosenSet : Int32} {v_paidSeats : Int32} {v_rhoUp : Int64} {v_rhoBy : Int64} {v_breachGroup : Int32} {v_chosen : Nat → Int32} {v_lower : Nat → Int64} {v_papers : Nat → Int32} {v_sets : Nat → Int32} {v_upper : Nat → Int64} (C : kC p s m args c cX11_loadOne 13 RX11 wsX11_loadOne D (kTy cyI cyJ cyZ) A) :
    ∀ (n : Nat) (y2 : Int32) (y3 : Int64) (y5 : Int64) (y7 : Int32) (q : Int32 × Int64 × Int64) (H : Heap) (locs : List Loc) (ls : Array Slot), lp_X11_loadOne_11 y1 v_heaps v_chosenSet v_lower v_papers v_sets v_upper n y2 y3 y5 y7 = some q → (∀ (H : Heap) (locs : List Loc) (ls : Array Slot), va_P D vwCl (wd_X11_loadOne cyI cyJ cyZ a_this a_sets a_papers a_worths a_sign a_hallSign a_chosen a_upper a_lower v_heaps v_seats v_signs v_hallMany v_chosenSet v_paidSeats v_rhoUp v_rhoBy v_breachGroup v_chosen v_lower v_papers v_sets v_upper) H → va_D A (wd_X11_loadOne cyI cyJ cyZ a_this a_sets a_papers a_worths a_sign a_hallSign a_chosen a_upper a_lower v_heaps v_seats v_signs v_hallMany v_chosenSet v_paidSeats v_rhoUp v_rhoBy v_breachGroup v_chosen v_lower v_papers v_sets v_upper) → va_S A s.heap H locs → lv_has ls 13 [(0, .ref a_this), (1, .int y1), (2, .int q.1), (3, .long q.2.1), (5, .long q.2.2)] → W p l e rm_X11_loadOne s m args below meth c H locs 0 0 Q (F0 m 141 ls [])) → va_P D vwCl (wd_X11_loadOne cyI cyJ cyZ a_this a_sets a_papers a_worths a_sign a_hallSign a_chosen a_upper a_lower v_heaps v_seats v_signs v_hallMany v_chosenSet v_paidSeats v_rhoUp v_rhoBy v_breachGroup v_chosen v_lower v_papers v_sets v_upper) H → va_D A (wd_X11_loadOne cyI cyJ cyZ a_this a_sets a_papers a_worths a_sign a_hallSign a_chosen a_upper a_lower v_heaps v_seats v_signs v_hallMany v_chosenSet v_paidSeats v_rhoUp v_rhoBy v_breachGroup v_chosen v_lower v_papers v_sets v_upper) → va_S A s.heap H locs → lv_has ls 13 [(0, .ref a_this), (1, .int y1), (2, .int y2), (3, .long y3), (5, .long y5), (7, .int y7)] → W p l e rm_X11_loadOne s m args below meth c H locs 0 0 Q (F0 m 11 ls []) := by
  obtain ⟨hx, hb, hml, hown, hts, hK, hA⟩ := id C
  have iX11 : ∀ w ∈ u_ws RX11 TX11 17, w ∈ wsX11_loadOne := by decide +kernel
  have fl36 := hts (.fieldLink RX11 36 "FairSeatsModel" "lower" "[J") (by decide +kernel)
  have cw79 := cwV (R := rm_X11_loadOne) (rm := rm_X11_isLeft) 1 hts gX11_loadOne_X11_isLeft rfl rfl rfl (by decide +kernel) ⟨Nat.le_of_ble_eq_true rfl, Nat.le_of_ble_eq_true rfl⟩
  have cw82 := cwV (R := rm_X11_loadOne) (rm := rm_X11_papersOf) 1 hts gX11_loadOne_X11_papersOf rfl rfl rfl (by decide +kernel) ⟨Nat.le_of_ble_eq_true rfl, Nat.le_of_ble_eq_true rfl⟩
  intro n
  induction n with
  | zero =>
    intro y2 y3 y5 y7 q H locs ls hf K hP hD hS hl
    rw [lp_X11_loadOne_11] at hf
    cases hf
  | succ n ih =>
    intro y2 y3 y5 y7 q H locs ls hf K hP hD hS hl
    rw [lp_X11_loadOne_11] at hf
    refine lv_iload hx hb dX11_loadOne_11 (lv_at hl 5 rfl) ?_
    refine lv_bipush (v := (8 : Int32)) hx hb dX11_loadOne_13 (by decide) ?_
    refine lv_icmp_ge (tgt := 141) hx hb dX11_loadOne_15 (by decide) (fun c1 => ?_) (fun c1 => ?_)
    · have hf := ob_pos c1 hf
      obtain rfl := Option.some.inj hf
      exact K _ _ _ hP hD hS (lv_sub hl [0, 1, 2, 3, 4] rfl)
    · have hf := ob_neg c1 hf
      refine lv_aload_n hx hb dX11_loadOne_18 rfl (lv_at hl 0 rfl) ?_
      refine lv_iload hx hb dX11_loadOne_19 (lv_at hl 5 rfl) ?_
      obtain ⟨q2, hq2, hf⟩ := ob_bind hf
      refine k_Vi (wo := (wd_X11_loadOne cyI cyJ cyZ a_this a_sets a_papers a_worths a_sign a_hallSign a_chosen a_upper a_lower v_heaps v_seats v_signs v_hallMany v_chosenSet v_paidSeats v_rhoUp v_rhoBy v_breachGroup v_chosen v_lower v_papers v_sets v_upper)) (As := [.int y7]) (rest := []) C (c_X11_papersOf l D cyI cyJ cyZ a_this a_sets a_papers a_worths a_sign a_hallSign a_chosen a_upper a_lower v_heaps v_seats v_signs v_hallMany v_chosenSet v_paidSeats v_rhoUp v_rhoBy v_breachGroup v_papers v_sets y7 q2 hq2) cw82 hP hD hS [0, 3, 4] [1, 2, 5] [3, 0, 1, 4, 5, 2] rfl rfl rfl (by decide) 0 (ci := 10) rfl rfl rfl rfl rfl hl.1 (Nat.le_of_ble_eq_true rfl) dX11_loadOne_21 ⟨Nat.zero_le _, Nat.zero_le _⟩ (fun H locs hP hD hS => ?_)
      refine lv_i2l (v := (q2).toInt64) hx hb dX11_loadOne_24 rfl ?_
      refine lv_lstore (lv' := [(8, .long (q2).toInt64), (0, .ref a_this), (1, .int y1), (2, .int y2), (3, .long y3), (5, .long y5), (7, .int y7)]) hx hb dX11_loadOne_25 hl (by decide) rfl (fun ls hl => ?_)
      refine lv_aload_n hx hb dX11_loadOne_27 rfl (lv_at hl 1 rfl) ?_
      refine lv_iload hx hb dX11_loadOne_28 (lv_at hl 6 rfl) ?_
      obtain ⟨q3, hq3, hf⟩ := ob_bind hf
      refine k_Vz (wo := (wd_X11_loadOne cyI cyJ cyZ a_this a_sets a_papers a_worths a_sign a_hallSign a_chosen a_upper a_lower v_heaps v_seats v_signs v_hallMany v_chosenSet v_paidSeats v_rhoUp v_rhoBy v_breachGroup v_chosen v_lower v_papers v_sets v_upper)) (As := [.int y7]) (rest := []) C (c_X11_isLeft l D cyI cyJ cyZ a_this a_sets a_papers a_worths a_sign a_hallSign a_chosen a_upper a_lower v_heaps v_seats v_signs v_hallMany v_chosenSet v_paidSeats v_rhoUp v_rhoBy v_breachGroup y7 q3 hq3) cw79 hP hD hS [0] [1, 2, 3, 4, 5] [5, 0, 1, 2, 3, 4] rfl rfl rfl (by decide) 0 (ci := 10) rfl rfl rfl rfl rfl hl.1 (Nat.le_of_ble_eq_true rfl) dX11_loadOne_30 ⟨Nat.zero_le _, Nat.zero_le _⟩ (fun H locs zq3 hP hD hS => ?_)
      refine lv_if_eq (tgt := 135) hx hb dX11_loadOne_33 (by decide) (fun c4 => ?_) (fun c4 => ?_)
      · have hf := ob_pos c4 hf
        refine lv_iinc (v := (y7 + (1 : Int32))) (lv' := [(7, .int (y7 + (1 : Int32))), (8, .long (q2).toInt64), (0, .ref a_this), (1, .int y1), (2, .int y2), (3, .long y3), (5, .long y5)]) hx hb dX11_loadOne_135 hl (k := 6) rfl rfl (by decide) rfl (fun ls hl => ?_)
        refine lv_goto (tgt := 11) hx hb dX11_loadOne_138 (by decide) ?_
        exact ih y2 y3 y5 (y7 + (1 : Int32)) _ _ _ _ hf K hP hD hS (lv_sub hl [2, 3, 4, 5, 6, 0] rfl)
      · have hf := ob_neg c4 hf
        refine lv_lload hx hb dX11_loadOne_36 (lv_at hl 0 rfl) ?_
        refine lv_lconst (v := 0) hx hb dX11_loadOne_38 (by decide) ?_
        refine W.lcmp hx hb dX11_loadOne_39 ?_
        refine lv_if_le (tgt := 135) hx hb dX11_loadOne_40 (by decide) (fun c5 => ?_) (fun c5 => ?_)
        · have hf := ob_pos c5 hf
          refine lv_iinc (v := (y7 + (1 : Int32))) (lv' := [(7, .int (y7 + (1 : Int32))), (8, .long (q2).toInt64), (0, .ref a_this), (1, .int y1), (2, .int y2), (3, .long y3), (5, .long y5)]) hx hb dX11_loadOne_135 hl (k := 6) rfl rfl (by decide) rfl (fun ls hl => ?_)
          refine lv_goto (tgt := 11) hx hb dX11_loadOne_138 (by decide) ?_
          exact ih y2 y3 y5 (y7 + (1 : Int32)) _ _ _ _ hf K hP hD hS (lv_sub hl [2, 3, 4, 5, 6, 0] rfl)
        · have hf := ob_neg c5 hf
          refine lv_aload_n hx hb dX11_loadOne_43 rfl (lv_at hl 1 rfl) ?_
          refine va_get (D := D) (ci := 10) (v := .ref a_lower) (C := RX11) (T := TX11) (N := 17) hx hb hts iX11 hown hK hP 0 rfl rfl 13 (by decide) fl36 (fun _ h9 => h9) rfl dX11_loadOne_44 ?_
          refine lv_iload_n hx hb dX11_loadOne_47 rfl (lv_at hl 2 rfl) ?_
          obtain ⟨h6, hf⟩ := og_in hf
          refine va_lald hx hb hK hP 2 1 rfl rfl h6 dX11_loadOne_48 ?_
          refine lv_lstore (lv' := [(10, .long (v_lower y1.toNatClampNeg)), (8, .long (q2).toInt64), (0, .ref a_this), (1, .int y1), (2, .int y2), (3, .long y3), (5, .long y5), (7, .int y7)]) hx hb dX11_loadOne_49 hl (by decide) rfl (fun ls hl => ?_)
          refine lv_iconst (v := (0 : Int32)) hx hb dX11_loadOne_51 (by decide) ?_
          refine lv_istore (lv' := [(12, .int (0 : Int32)), (10, .long (v_lower y1.toNatClampNeg)), (8, .long (q2).toInt64), (0, .ref a_this), (1, .int y1), (2, .int y2), (3, .long y3), (5, .long y5), (7, .int y7)]) hx hb dX11_loadOne_52 hl (by decide) rfl (fun ls hl => ?_)
          obtain ⟨q12, hq12, hf⟩ := ob_bind hf
          refine wl_X11_loadOne_54 C FU (v_lower y1.toNatClampNeg) (0 : Int32) _ _ _ _ hq12 (fun H locs ls hP hD hS hl => ?_) hP hD hS (lv_sub hl [3, 4, 5, 6, 7, 8, 2, 1, 0] rfl)
          refine lv_iload_n hx hb dX11_loadOne_108 rfl (lv_at hl 2 rfl) ?_
          refine lv_if_lt (tgt := 125) hx hb dX11_loadOne_109 (by decide) (fun c13 => ?_) (fun c13 => ?_)
          · have hf := ob_pos c13 hf
            refine lv_iload hx hb dX11_loadOne_125 (lv_at hl 5 rfl) ?_
            refine lv_istore_n (lv' := [(2, .int y7), (0, .ref a_this), (1, .int y1), (3, .long y3), (5, .long y5), (7, .int y7), (8, .long (q2).toInt64), (10, .long q12)]) hx hb dX11_loadOne_127 rfl hl (by decide) rfl (fun ls hl => ?_)
            refine lv_lload hx hb dX11_loadOne_128 (lv_at hl 7 rfl) ?_
            refine lv_lstore_n (lv' := [(3, .long q12), (2, .int y7), (0, .ref a_this), (1, .int y1), (5, .long y5), (7, .int y7), (8, .long (q2).toInt64), (10, .long q12)]) hx hb dX11_loadOne_130 rfl hl (by decide) rfl (fun ls hl => ?_)
            refine lv_lload hx hb dX11_loadOne_131 (lv_at hl 6 rfl) ?_
            refine lv_lstore (lv' := [(5, .long (q2).toInt64), (3, .long q12), (2, .int y7), (0, .ref a_this), (1, .int y1), (7, .int y7), (8, .long (q2).toInt64), (10, .long q12)]) hx hb dX11_loadOne_133 hl (by decide) rfl (fun ls hl => ?_)
            refine lv_iinc (v := (y7 + (1 : Int32))) (lv' := [(7, .int (y7 + (1 : Int32))), (5, .long (q2).toInt64), (3, .long q12), (2, .int y7), (0, .ref a_this), (1, .int y1), (8, .long (q2).toInt64), (10, .long q12)]) hx hb dX11_loadOne_135 hl (k := 5) rfl rfl (by decide) rfl (fun ls hl => ?_)
            refine lv_goto (tgt := 11) hx hb dX11_loadOne_138 (by decide) ?_
            exact ih y7 q12 ((q2).toInt64) (y7 + (1 : Int32)) _ _ _ _ hf K hP hD hS (lv_sub hl [4, 5, 3, 2, 1, 0] rfl)
          · have hf := ob_neg c13 hf
            refine lv_lload hx hb dX11_loadOne_112 (lv_at hl 7 rfl) ?_
            refine lv_lload hx hb dX11_loadOne_114 (lv_at hl 4 rfl) ?_
            refine lv_lmul hx hb dX11_loadOne_116 ?_
            refine lv_lload_n hx hb dX11_loadOne_117 rfl (lv_at hl 3 rfl) ?_
            refine lv_lload hx hb dX11_loadOne_118 (lv_at hl 6 rfl) ?_
            refine lv_lmul hx hb dX11_loadOne_120 ?_
            refine W.lcmp hx hb dX11_loadOne_121 ?_
            refine lv_if_ge (tgt := 135) hx hb dX11_loadOne_122 (by decide) (fun c14 => ?_) (fun c14 => ?_)
            · have hf := ob_pos c14 hf
              refine lv_iinc (v := (y7 + (1 : Int32))) (lv' := [(7, .int (y7 + (1 : Int32))), (0, .ref a_this), (1, .int y1), (2, .int y2), (3, .long y3), (5, .long y5), (8, .long (q2).toInt64), (10, .long q12)]) hx hb dX11_loadOne_135 hl (k := 5) rfl rfl (by decide) rfl (fun ls hl => ?_)
              refine lv_goto (tgt := 11) hx hb dX11_loadOne_138 (by decide) ?_
              exact ih y2 y3 y5 (y7 + (1 : Int32)) _ _ _ _ hf K hP hD hS (lv_sub hl [1, 2, 3, 4, 5, 0] rfl)
            · have hf := ob_neg c14 hf
              refine lv_iload hx hb dX11_loadOne_125 (lv_at hl 5 rfl) ?_
              refine lv_istore_n (lv' := [(2, .int y7), (0, .ref a_this), (1, .int y1), (3, .long y3), (5, .long y5), (7, .int y7), (8, .long (q2).toInt64), (10, .long q12)]) hx hb dX11_loadOne_127 rfl hl (by decide) rfl (fun ls hl => ?_)
              refine lv_lload hx hb dX11_loadOne_128 (lv_at hl 7 rfl) ?_
              refine lv_lstore_n (lv' := [(3, .long q12), (2, .int y7), (0, .ref a_this), (1, .int y1), (5, .long y5), (7, .int y7), (8, .long (q2).toInt64), (10, .long q12)]) hx hb dX11_loadOne_130 rfl hl (by decide) rfl (fun ls hl => ?_)
              refine lv_lload hx hb dX11_loadOne_131 (lv_at hl 6 rfl) ?_
              refine lv_lstore (lv' := [(5, .long (q2).toInt64), (3, .long q12), (2, .int y7), (0, .ref a_this), (1, .int y1), (7, .int y7), (8, .long (q2).toInt64), (10, .long q12)]) hx hb dX11_loadOne_133 hl (by decide) rfl (fun ls hl => ?_)
              refine lv_iinc (v := (y7 + (1 : Int32))) (lv' := [(7, .int (y7 + (1 : Int32))), (5, .long (q2).toInt64), (3, .long q12), (2, .int y7), (0, .ref a_this), (1, .int y1), (8, .long (q2).toInt64), (10, .long q12)]) hx hb dX11_loadOne_135 hl (k := 5) rfl rfl (by decide) rfl (fun ls hl => ?_)
              refine lv_goto (tgt := 11) hx hb dX11_loadOne_138 (by decide) ?_
              exact ih y7 q12 ((q2).toInt64) (y7 + (1 : Int32)) _ _ _ _ hf K hP hD hS (lv_sub hl [4, 5, 3, 2, 1, 0] rfl)
set_option maxHeartbeats 4000000 in
set_option maxRecDepth 100000 in
theorem wl_X11_loadOne_151 {p : Program} {l : Launch} {e : Env} {s : State} {m : MethodId} {args : Array Value} {below : List Frame} {meth : Method} {c : Code} {A : Nat → Prop} {Q : State → Prop} {D : va_G} {cyI cyJ cyZ : ClassId} {a_this a_sets a_papers a_worths a_sign a_hallSign a_chosen a_upper a_lower : Nat} {y1 : Int32} {y2 : Int32} {y3 : Int64} {v_heaps : Int32} {v_seats : Int32} {v_signs : Int32} {v_hallMany : Int32} {v_chosenSet : Int32} {v_paidSeats : Int32} {v_rhoUp : Int64} {v_rhoBy : Int64} {v_breachGroup : Int32} {v_chosen : Nat → Int32} {v_lower : Nat → Int64} {v_papers : Nat → Int32} {v_sets : Nat → Int32} (C : kC p s m args c cX11_loadOne 13 RX11 wsX11_loadOne D (kTy cyI cyJ cyZ) A) :
    ∀ (n : Nat) (y7 : Int32) (v_upper : Nat → Int64) (q : (Nat → Int64)) (H : Heap) (locs : List Loc) (ls : Array Slot), lp_X11_loadOne_151 y1 y2 y3 v_heaps v_sets n y7 v_upper = some q → (∀ (H : Heap) (locs : List Loc) (ls : Array Slot), va_P D vwCl (wd_X11_loadOne cyI cyJ cyZ a_this a_sets a_papers a_worths a_sign a_hallSign a_chosen a_upper a_lower v_heaps v_seats v_signs v_hallMany v_chosenSet v_paidSeats v_rhoUp v_rhoBy v_breachGroup v_chosen v_lower v_papers v_sets q) H → va_D A (wd_X11_loadOne cyI cyJ cyZ a_this a_sets a_papers a_worths a_sign a_hallSign a_chosen a_upper a_lower v_heaps v_seats v_signs v_hallMany v_chosenSet v_paidSeats v_rhoUp v_rhoBy v_breachGroup v_chosen v_lower v_papers v_sets q) → va_S A s.heap H locs → lv_has ls 13 [(0, .ref a_this), (1, .int y1), (2, .int y2)] → W p l e rm_X11_loadOne s m args below meth c H locs 0 0 Q (F0 m 217 ls [])) → va_P D vwCl (wd_X11_loadOne cyI cyJ cyZ a_this a_sets a_papers a_worths a_sign a_hallSign a_chosen a_upper a_lower v_heaps v_seats v_signs v_hallMany v_chosenSet v_paidSeats v_rhoUp v_rhoBy v_breachGroup v_chosen v_lower v_papers v_sets v_upper) H → va_D A (wd_X11_loadOne cyI cyJ cyZ a_this a_sets a_papers a_worths a_sign a_hallSign a_chosen a_upper a_lower v_heaps v_seats v_signs v_hallMany v_chosenSet v_paidSeats v_rhoUp v_rhoBy v_breachGroup v_chosen v_lower v_papers v_sets v_upper) → va_S A s.heap H locs → lv_has ls 13 [(0, .ref a_this), (1, .int y1), (2, .int y2), (3, .long y3), (7, .int y7)] → W p l e rm_X11_loadOne s m args below meth c H locs 0 0 Q (F0 m 151 ls []) := by
  obtain ⟨hx, hb, hml, hown, hts, hK, hA⟩ := id C
  have iX11 : ∀ w ∈ u_ws RX11 TX11 17, w ∈ wsX11_loadOne := by decide +kernel
  have fl7 := hts (.fieldLink RX11 7 "FairSeatsModel" "sets" "[I") (by decide +kernel)
  have fl32 := hts (.fieldLink RX11 32 "FairSeatsModel" "upper" "[J") (by decide +kernel)
  have fl39 := hts (.fieldLink RX11 39 "FairSeatsModel" "heaps" "I") (by decide +kernel)
  intro n
  induction n with
  | zero =>
    intro y7 v_upper q H locs ls hf K hP hD hS hl
    rw [lp_X11_loadOne_151] at hf
    cases hf
  | succ n ih =>
    intro y7 v_upper q H locs ls hf K hP hD hS hl
    rw [lp_X11_loadOne_151] at hf
    refine lv_iload hx hb dX11_loadOne_151 (lv_at hl 4 rfl) ?_
    refine lv_aload_n hx hb dX11_loadOne_153 rfl (lv_at hl 0 rfl) ?_
    refine va_get (D := D) (ci := 10) (v := .int v_heaps) (C := RX11) (T := TX11) (N := 17) hx hb hts iX11 hown hK hP 0 rfl rfl 0 (by decide) fl39 (fun _ h9 => h9) rfl dX11_loadOne_154 ?_
    refine lv_icmp_ge (tgt := 217) hx hb dX11_loadOne_157 (by decide) (fun c17 => ?_) (fun c17 => ?_)
    · have hf := ob_pos c17 hf
      obtain rfl := Option.some.inj hf
      exact K _ _ _ hP hD hS (lv_sub hl [0, 1, 2] rfl)
    · have hf := ob_neg c17 hf
      refine lv_iload_n hx hb dX11_loadOne_160 rfl (lv_at hl 2 rfl) ?_
      refine lv_if_lt (tgt := 217) hx hb dX11_loadOne_161 (by decide) (fun c18 => ?_) (fun c18 => ?_)
      · have hf := ob_pos c18 hf
        obtain rfl := Option.some.inj hf
        exact K _ _ _ hP hD hS (lv_sub hl [0, 1, 2] rfl)
      · have hf := ob_neg c18 hf
        refine lv_aload_n hx hb dX11_loadOne_164 rfl (lv_at hl 0 rfl) ?_
        refine va_get (D := D) (ci := 10) (v := .ref a_upper) (C := RX11) (T := TX11) (N := 17) hx hb hts iX11 hown hK hP 0 rfl rfl 12 (by decide) fl32 (fun _ h9 => h9) rfl dX11_loadOne_165 ?_
        refine lv_bipush (v := (7 : Int32)) hx hb dX11_loadOne_168 (by decide) ?_
        refine lv_iload_n hx hb dX11_loadOne_170 rfl (lv_at hl 1 rfl) ?_
        refine lv_iconst (v := (1 : Int32)) hx hb dX11_loadOne_171 (by decide) ?_
        refine lv_iadd hx hb dX11_loadOne_172 ?_
        refine lv_imul hx hb dX11_loadOne_173 ?_
        refine lv_iload hx hb dX11_loadOne_174 (lv_at hl 4 rfl) ?_
        refine lv_iadd hx hb dX11_loadOne_176 ?_
        refine lv_aload_n hx hb dX11_loadOne_177 rfl (lv_at hl 0 rfl) ?_
        refine va_get (D := D) (ci := 10) (v := .ref a_sets) (C := RX11) (T := TX11) (N := 17) hx hb hts iX11 hown hK hP 0 rfl rfl 1 (by decide) fl7 (fun _ h9 => h9) rfl dX11_loadOne_178 ?_
        refine lv_iload hx hb dX11_loadOne_181 (lv_at hl 4 rfl) ?_
        obtain ⟨h19, hf⟩ := og_in hf
        refine va_iald hx hb hK hP 4 0 rfl rfl h19 dX11_loadOne_183 ?_
        refine lv_iload_n hx hb dX11_loadOne_184 rfl (lv_at hl 2 rfl) ?_
        refine lv_ishr hx hb dX11_loadOne_185 ?_
        refine lv_iconst (v := (1 : Int32)) hx hb dX11_loadOne_186 (by decide) ?_
        refine lv_iand hx hb dX11_loadOne_187 ?_
        refine lv_iconst (v := (1 : Int32)) hx hb dX11_loadOne_188 (by decide) ?_
        refine lv_icmp_ne (tgt := 196) hx hb dX11_loadOne_189 (by decide) (fun c20 => ?_) (fun c20 => ?_)
        · have hf := ob_neg c20 hf
          refine lv_aload_n hx hb dX11_loadOne_196 rfl (lv_at hl 0 rfl) ?_
          refine va_get (D := D) (ci := 10) (v := .ref a_upper) (C := RX11) (T := TX11) (N := 17) hx hb hts iX11 hown hK hP 0 rfl rfl 12 (by decide) fl32 (fun _ h9 => h9) rfl dX11_loadOne_197 ?_
          refine lv_bipush (v := (7 : Int32)) hx hb dX11_loadOne_200 (by decide) ?_
          refine lv_iload_n hx hb dX11_loadOne_202 rfl (lv_at hl 1 rfl) ?_
          refine lv_iconst (v := (1 : Int32)) hx hb dX11_loadOne_203 (by decide) ?_
          refine lv_iadd hx hb dX11_loadOne_204 ?_
          refine lv_imul hx hb dX11_loadOne_205 ?_
          refine lv_iload hx hb dX11_loadOne_206 (lv_at hl 4 rfl) ?_
          refine lv_iadd hx hb dX11_loadOne_208 ?_
          obtain ⟨h21, hf⟩ := og_in hf
          refine va_lald hx hb hK hP 5 1 rfl rfl h21 dX11_loadOne_209 ?_
          obtain ⟨h22, hf⟩ := og_in hf
          refine va_last hx hb hK hP hD hS 5 1 rfl rfl h22 dX11_loadOne_210 (fun H locs hP hD hS => ?_)
          have hP : va_P D vwCl (wd_X11_loadOne cyI cyJ cyZ a_this a_sets a_papers a_worths a_sign a_hallSign a_chosen a_upper a_lower v_heaps v_seats v_signs v_hallMany v_chosenSet v_paidSeats v_rhoUp v_rhoBy v_breachGroup v_chosen v_lower v_papers v_sets (vp_updL v_upper (((7 : Int32) * (y1 + (1 : Int32))) + y7).toNatClampNeg (v_upper (((7 : Int32) * (y1 + (1 : Int32))) + y7).toNatClampNeg))) H := hP
          have hD : va_D A (wd_X11_loadOne cyI cyJ cyZ a_this a_sets a_papers a_worths a_sign a_hallSign a_chosen a_upper a_lower v_heaps v_seats v_signs v_hallMany v_chosenSet v_paidSeats v_rhoUp v_rhoBy v_breachGroup v_chosen v_lower v_papers v_sets (vp_updL v_upper (((7 : Int32) * (y1 + (1 : Int32))) + y7).toNatClampNeg (v_upper (((7 : Int32) * (y1 + (1 : Int32))) + y7).toNatClampNeg))) := hD
          refine lv_iinc (v := (y7 + (1 : Int32))) (lv' := [(7, .int (y7 + (1 : Int32))), (0, .ref a_this), (1, .int y1), (2, .int y2), (3, .long y3)]) hx hb dX11_loadOne_211 hl (k := 4) rfl rfl (by decide) rfl (fun ls hl => ?_)
          refine lv_goto (tgt := 151) hx hb dX11_loadOne_214 (by decide) ?_
          exact ih (y7 + (1 : Int32)) (vp_updL v_upper (((7 : Int32) * (y1 + (1 : Int32))) + y7).toNatClampNeg (v_upper (((7 : Int32) * (y1 + (1 : Int32))) + y7).toNatClampNeg)) _ _ _ _ hf K hP hD hS (lv_sub hl [1, 2, 3, 4, 0] rfl)
        · have hf := ob_pos c20 hf
          refine lv_lload_n hx hb dX11_loadOne_192 rfl (lv_at hl 3 rfl) ?_
          refine lv_goto (tgt := 210) hx hb dX11_loadOne_193 (by decide) ?_
          obtain ⟨h23, hf⟩ := og_in hf
          refine va_last hx hb hK hP hD hS 5 1 rfl rfl h23 dX11_loadOne_210 (fun H locs hP hD hS => ?_)
          have hP : va_P D vwCl (wd_X11_loadOne cyI cyJ cyZ a_this a_sets a_papers a_worths a_sign a_hallSign a_chosen a_upper a_lower v_heaps v_seats v_signs v_hallMany v_chosenSet v_paidSeats v_rhoUp v_rhoBy v_breachGroup v_chosen v_lower v_papers v_sets (vp_updL v_upper (((7 : Int32) * (y1 + (1 : Int32))) + y7).toNatClampNeg y3)) H := hP
          have hD : va_D A (wd_X11_loadOne cyI cyJ cyZ a_this a_sets a_papers a_worths a_sign a_hallSign a_chosen a_upper a_lower v_heaps v_seats v_signs v_hallMany v_chosenSet v_paidSeats v_rhoUp v_rhoBy v_breachGroup v_chosen v_lower v_papers v_sets (vp_updL v_upper (((7 : Int32) * (y1 + (1 : Int32))) + y7).toNatClampNeg y3)) := hD
          refine lv_iinc (v := (y7 + (1 : Int32))) (lv' := [(7, .int (y7 + (1 : Int32))), (0, .ref a_this), (1, .int y1), (2, .int y2), (3, .long y3)]) hx hb dX11_loadOne_211 hl (k := 4) rfl rfl (by decide) rfl (fun ls hl => ?_)
          refine lv_goto (tgt := 151) hx hb dX11_loadOne_214 (by decide) ?_
          exact ih (y7 + (1 : Int32)) (vp_updL v_upper (((7 : Int32) * (y1 + (1 : Int32))) + y7).toNatClampNeg y3) _ _ _ _ hf K hP hD hS (lv_sub hl [1, 2, 3, 4, 0] rfl)
set_option maxHeartbeats 4000000 in
set_option maxRecDepth 100000 in
theorem c_X11_loadOne (l : Launch) (D : va_G) (cyI cyJ cyZ : ClassId) (a_this a_sets a_papers a_worths a_sign a_hallSign a_chosen a_upper a_lower : Nat) (v_heaps : Int32) (v_seats : Int32) (v_signs : Int32) (v_hallMany : Int32) (v_chosenSet : Int32) (v_paidSeats : Int32) (v_rhoUp : Int64) (v_rhoBy : Int64) (v_breachGroup : Int32) (v_chosen : Nat → Int32) (v_lower : Nat → Int64) (v_papers : Nat → Int32) (v_sets : Nat → Int32) (v_upper : Nat → Int64) (x1 : Int32) (q : Int32 × (Nat → Int32) × (Nat → Int64) × (Nat → Int64)) (hf : f_X11_loadOne x1 v_heaps v_chosenSet v_chosen v_lower v_papers v_sets v_upper = some q) : kMv l yX11_loadOne wsX11_loadOne rm_X11_loadOne D (kTy cyI cyJ cyZ) [.ref a_this, .int x1] (wd_X11_loadOne cyI cyJ cyZ a_this a_sets a_papers a_worths a_sign a_hallSign a_chosen a_upper a_lower v_heaps v_seats v_signs v_hallMany v_chosenSet v_paidSeats v_rhoUp v_rhoBy v_breachGroup v_chosen v_lower v_papers v_sets v_upper) (wd_X11_loadOne cyI cyJ cyZ a_this a_sets a_papers a_worths a_sign a_hallSign a_chosen a_upper a_lower v_heaps v_seats v_signs v_hallMany q.1 v_paidSeats v_rhoUp v_rhoBy v_breachGroup q.2.1 q.2.2.1 v_papers v_sets q.2.2.2) := by
  refine kMv_of (cc := cX11_loadOne) (nL := 13) (own := RX11) (by decide) rfl rfl (Nat.le_of_ble_eq_true rfl) ?_
  intro p e s m below meth c A Q ls C hret hP hD hS hl
  have hl : lv_has ls 13 [(0, .ref a_this), (1, .int x1)] := hl
  unfold f_X11_loadOne at hf
  obtain ⟨hx, hb, hml, hown, hts, hK, hA⟩ := id C
  have cw85 := cwV (R := rm_X11_loadOne) (rm := rm_X11_carry) 2 hts gX11_loadOne_X11_carry rfl rfl rfl (by decide +kernel) ⟨Nat.le_of_ble_eq_true rfl, Nat.le_of_ble_eq_true rfl⟩
  have cw89 := cwV (R := rm_X11_loadOne) (rm := rm_X11_mostOf) 0 hts gX11_loadOne_X11_mostOf rfl rfl rfl (by decide +kernel) ⟨Nat.le_of_ble_eq_true rfl, Nat.le_of_ble_eq_true rfl⟩
  have cw92 := cwV (R := rm_X11_loadOne) (rm := rm_X11_pick) 2 hts gX11_loadOne_X11_pick rfl rfl rfl (by decide +kernel) ⟨Nat.le_of_ble_eq_true rfl, Nat.le_of_ble_eq_true rfl⟩
  refine lv_bipush (v := (-6 : Int32)) hx hb dX11_loadOne_0 (by decide) ?_
  refine lv_istore_n (lv' := [(2, .int (-6 : Int32)), (0, .ref a_this), (1, .int x1)]) hx hb dX11_loadOne_2 rfl hl (by decide) rfl (fun ls hl => ?_)
  refine lv_lconst (v := 0) hx hb dX11_loadOne_3 (by decide) ?_
  refine lv_lstore_n (lv' := [(3, .long (0 : Int64)), (2, .int (-6 : Int32)), (0, .ref a_this), (1, .int x1)]) hx hb dX11_loadOne_4 rfl hl (by decide) rfl (fun ls hl => ?_)
  refine lv_lconst (v := 1) hx hb dX11_loadOne_5 (by decide) ?_
  refine lv_lstore (lv' := [(5, .long (1 : Int64)), (3, .long (0 : Int64)), (2, .int (-6 : Int32)), (0, .ref a_this), (1, .int x1)]) hx hb dX11_loadOne_6 hl (by decide) rfl (fun ls hl => ?_)
  refine lv_iconst (v := (0 : Int32)) hx hb dX11_loadOne_8 (by decide) ?_
  refine lv_istore (lv' := [(7, .int (0 : Int32)), (5, .long (1 : Int64)), (3, .long (0 : Int64)), (2, .int (-6 : Int32)), (0, .ref a_this), (1, .int x1)]) hx hb dX11_loadOne_9 hl (by decide) rfl (fun ls hl => ?_)
  obtain ⟨q15, hq15, hf⟩ := ob_bind hf
  refine wl_X11_loadOne_11 C FU (-6 : Int32) (0 : Int64) (1 : Int64) (0 : Int32) _ _ _ _ hq15 (fun H locs ls hP hD hS hl => ?_) hP hD hS (lv_sub hl [4, 5, 3, 2, 1, 0] rfl)
  refine lv_aload_n hx hb dX11_loadOne_141 rfl (lv_at hl 0 rfl) ?_
  refine lv_iload_n hx hb dX11_loadOne_142 rfl (lv_at hl 1 rfl) ?_
  refine lv_lload hx hb dX11_loadOne_143 (lv_at hl 4 rfl) ?_
  obtain ⟨q16, hq16, hf⟩ := ob_bind hf
  refine k_Vv (wo := (wd_X11_loadOne cyI cyJ cyZ a_this a_sets a_papers a_worths a_sign a_hallSign a_chosen a_upper a_lower v_heaps v_seats v_signs v_hallMany v_chosenSet v_paidSeats v_rhoUp v_rhoBy v_breachGroup v_chosen q16.1 v_papers v_sets q16.2)) (As := [.int x1, .long q15.2.2]) (rest := []) C (c_X11_carry l D cyI cyJ cyZ a_this a_sets a_papers a_worths a_sign a_hallSign a_chosen a_upper a_lower v_heaps v_seats v_signs v_hallMany v_chosenSet v_paidSeats v_rhoUp v_rhoBy v_breachGroup v_lower v_upper x1 q15.2.2 q16 hq16) cw85 hP hD hS [0, 2, 5] [1, 3, 4] [3, 0, 4, 1, 2, 5] rfl rfl rfl (by decide) 0 (ci := 10) rfl rfl rfl rfl rfl hl.1 (Nat.le_of_ble_eq_true rfl) dX11_loadOne_145 ⟨Nat.zero_le _, Nat.zero_le _⟩ (fun H locs hP hD hS => ?_)
  refine lv_iconst (v := (0 : Int32)) hx hb dX11_loadOne_148 (by decide) ?_
  refine lv_istore (lv' := [(7, .int (0 : Int32)), (0, .ref a_this), (1, .int x1), (2, .int q15.1), (3, .long q15.2.1), (5, .long q15.2.2)]) hx hb dX11_loadOne_149 hl (by decide) rfl (fun ls hl => ?_)
  obtain ⟨q24, hq24, hf⟩ := ob_bind hf
  refine wl_X11_loadOne_151 C FU (0 : Int32) q16.2 _ _ _ _ hq24 (fun H locs ls hP hD hS hl => ?_) hP hD hS (lv_sub hl [1, 2, 3, 4, 0] rfl)
  refine lv_aload_n hx hb dX11_loadOne_217 rfl (lv_at hl 0 rfl) ?_
  refine lv_iload_n hx hb dX11_loadOne_218 rfl (lv_at hl 1 rfl) ?_
  refine lv_iload_n hx hb dX11_loadOne_219 rfl (lv_at hl 2 rfl) ?_
  refine lv_if_ge (tgt := 230) hx hb dX11_loadOne_220 (by decide) (fun c25 => ?_) (fun c25 => ?_)
  · have hf := ob_pos c25 hf
    refine lv_iload_n hx hb dX11_loadOne_230 rfl (lv_at hl 2 rfl) ?_
    obtain ⟨q26, hq26, hf⟩ := ob_bind hf
    refine k_Vv (wo := (wd_X11_loadOne cyI cyJ cyZ a_this a_sets a_papers a_worths a_sign a_hallSign a_chosen a_upper a_lower v_heaps v_seats v_signs v_hallMany q26.1 v_paidSeats v_rhoUp v_rhoBy v_breachGroup q26.2 q16.1 v_papers v_sets q24)) (As := [.int x1, .int q15.1]) (rest := []) C (c_X11_pick l D cyI cyJ cyZ a_this a_sets a_papers a_worths a_sign a_hallSign a_chosen a_upper a_lower v_heaps v_seats v_signs v_hallMany v_chosenSet v_paidSeats v_rhoUp v_rhoBy v_breachGroup v_chosen x1 q15.1 q26 hq26) cw92 hP hD hS [0, 1] [2, 3, 4, 5] [4, 5, 0, 1, 2, 3] rfl rfl rfl (by decide) 0 (ci := 10) rfl rfl rfl rfl rfl hl.1 (Nat.le_of_ble_eq_true rfl) dX11_loadOne_231 ⟨Nat.zero_le _, Nat.zero_le _⟩ (fun H locs hP hD hS => ?_)
    obtain rfl := Option.some.inj hf
    exact hret _ _ _ _ dX11_loadOne_234 hP hD hS
  · have hf := ob_neg c25 hf
    refine lv_aload_n hx hb dX11_loadOne_223 rfl (lv_at hl 0 rfl) ?_
    obtain ⟨q27, hq27, hf⟩ := ob_bind hf
    refine k_Vi (wo := (wd_X11_loadOne cyI cyJ cyZ a_this a_sets a_papers a_worths a_sign a_hallSign a_chosen a_upper a_lower v_heaps v_seats v_signs v_hallMany v_chosenSet v_paidSeats v_rhoUp v_rhoBy v_breachGroup v_chosen q16.1 v_papers v_sets q24)) (As := []) (rest := [.int x1, .ref a_this]) C (c_X11_mostOf l D cyI cyJ cyZ a_this a_sets a_papers a_worths a_sign a_hallSign a_chosen a_upper a_lower v_heaps v_seats v_signs v_hallMany v_chosenSet v_paidSeats v_rhoUp v_rhoBy v_breachGroup v_papers v_sets  q27 hq27) cw89 hP hD hS [0, 3, 4] [1, 2, 5] [3, 0, 1, 4, 5, 2] rfl rfl rfl (by decide) 0 (ci := 10) rfl rfl rfl rfl rfl hl.1 (Nat.le_of_ble_eq_true rfl) dX11_loadOne_224 ⟨Nat.zero_le _, Nat.zero_le _⟩ (fun H locs hP hD hS => ?_)
    refine lv_goto (tgt := 231) hx hb dX11_loadOne_227 (by decide) ?_
    obtain ⟨q28, hq28, hf⟩ := ob_bind hf
    refine k_Vv (wo := (wd_X11_loadOne cyI cyJ cyZ a_this a_sets a_papers a_worths a_sign a_hallSign a_chosen a_upper a_lower v_heaps v_seats v_signs v_hallMany q28.1 v_paidSeats v_rhoUp v_rhoBy v_breachGroup q28.2 q16.1 v_papers v_sets q24)) (As := [.int x1, .int q27]) (rest := []) C (c_X11_pick l D cyI cyJ cyZ a_this a_sets a_papers a_worths a_sign a_hallSign a_chosen a_upper a_lower v_heaps v_seats v_signs v_hallMany v_chosenSet v_paidSeats v_rhoUp v_rhoBy v_breachGroup v_chosen x1 q27 q28 hq28) cw92 hP hD hS [0, 1] [2, 3, 4, 5] [4, 5, 0, 1, 2, 3] rfl rfl rfl (by decide) 0 (ci := 10) rfl rfl rfl rfl rfl hl.1 (Nat.le_of_ble_eq_true rfl) dX11_loadOne_231 ⟨Nat.zero_le _, Nat.zero_le _⟩ (fun H locs hP hD hS => ?_)
    obtain rfl := Option.some.inj hf
    exact hret _ _ _ _ dX11_loadOne_234 hP hD hS
abbrev rm_X11_layRho : Room := { frames := 1, cells := 0, slots := 0, locals := 23 }
abbrev wd_X11_layRho (cyI cyJ cyZ : ClassId) (a_this a_sets a_papers a_worths a_sign a_hallSign a_chosen a_upper a_lower : Nat) (v_heaps : Int32) (v_seats : Int32) (v_signs : Int32) (v_hallMany : Int32) (v_chosenSet : Int32) (v_paidSeats : Int32) (v_rhoUp : Int64) (v_rhoBy : Int64) (v_breachGroup : Int32) (v_lower : Nat → Int64) (v_papers : Nat → Int32) (v_sets : Nat → Int32) (v_upper : Nat → Int64) : va_W := [(a_this, .inr (10, [.int v_heaps, .ref a_sets, .ref a_papers, .int v_seats, .ref a_worths, .int v_signs, .ref a_sign, .int v_hallMany, .ref a_hallSign, .ref a_chosen, .int v_chosenSet, .int v_paidSeats, .ref a_upper, .ref a_lower, .long v_rhoUp, .long v_rhoBy, .int v_breachGroup])), (a_lower, .inl (cyJ, 5, .inr (.inl v_lower))), (a_papers, .inl (cyI, 7, .inl v_papers)), (a_sets, .inl (cyI, 7, .inl v_sets)), (a_upper, .inl (cyJ, 35, .inr (.inl v_upper)))]
def lp_X11_layRho_19 (y1 : Int32) (y2 : Int32) (y3 : Int64) (v_heaps : Int32) (v_papers : Nat → Int32) (v_sets : Nat → Int32) (v_upper : Nat → Int64) : Nat → Int64 → Int32 → Option (Int64)
  | 0, _, _ => none
  | n + 1, y5, y7 => (if v_heaps ≤ y7 then some y5 else (if ob_in y7 7 = true then (if ob_in y7 7 = true then (if ob_in (((7 : Int32) * y1) + y7) 35 = true then ob_let (y5 + ((((((v_sets y7.toNatClampNeg) >>> (y2 &&& 31)) &&& (1 : Int32)) * (v_papers y7.toNatClampNeg))).toInt64 * (v_upper (((7 : Int32) * y1) + y7).toNatClampNeg))) (fun (b7 : Int64) => lp_X11_layRho_19 y1 y2 y3 v_heaps v_papers v_sets v_upper n b7 (y7 + (1 : Int32))) else none) else none) else none))
def lp_X11_layRho_113 (y1 : Int32) (y2 : Int32) (y3 : Int64) (y7 : Int32) (v_heaps : Int32) (v_papers : Nat → Int32) (v_sets : Nat → Int32) (v_upper : Nat → Int64) : Nat → Int32 → Int64 → Int64 → Option (Int64 × Int64)
  | 0, _, _, _ => none
  | n + 1, y9, v_rhoUp, v_rhoBy => (if v_heaps ≤ y9 then some (v_rhoUp, v_rhoBy) else (if ob_in y9 7 = true then (if (((v_sets y9.toNatClampNeg) >>> (y2 &&& 31)) &&& (1 : Int32)) = (1 : Int32) then (if ((y7 >>> (y9 &&& 31)) &&& (1 : Int32)) = (1 : Int32) then (if ob_in y9 7 = true then (if ob_in (((7 : Int32) * y1) + y9) 35 = true then lp_X11_layRho_113 y1 y2 y3 y7 v_heaps v_papers v_sets v_upper n (y9 + (1 : Int32)) (v_rhoUp - (((v_papers y9.toNatClampNeg)).toInt64 * (v_upper (((7 : Int32) * y1) + y9).toNatClampNeg))) (v_rhoBy + (0 : Int64)) else none) else none) else (if ob_in y9 7 = true then lp_X11_layRho_113 y1 y2 y3 y7 v_heaps v_papers v_sets v_upper n (y9 + (1 : Int32)) (v_rhoUp - (0 : Int64)) (v_rhoBy + ((v_papers y9.toNatClampNeg)).toInt64) else none)) else (if ((y7 >>> (y9 &&& 31)) &&& (1 : Int32)) = (1 : Int32) then lp_X11_layRho_113 y1 y2 y3 y7 v_heaps v_papers v_sets v_upper n (y9 + (1 : Int32)) (v_rhoUp - (0 : Int64)) (v_rhoBy + (0 : Int64)) else lp_X11_layRho_113 y1 y2 y3 y7 v_heaps v_papers v_sets v_upper n (y9 + (1 : Int32)) (v_rhoUp - (0 : Int64)) (v_rhoBy + (0 : Int64)))) else none))
def lp_X11_layRho_249 (y1 : Int32) (y2 : Int32) (y3 : Int64) (v_heaps : Int32) (v_rhoUp : Int64) (v_rhoBy : Int64) (v_sets : Nat → Int32) (v_upper : Nat → Int64) : Nat → Int32 → Int32 → Int32 → Option (Int32 × Int32)
  | 0, _, _, _ => none
  | n + 1, y7, y8, y9 => (if v_heaps ≤ y9 then some (y7, y8) else (if ob_in y9 7 = true then (if (((v_sets y9.toNatClampNeg) >>> (y2 &&& 31)) &&& (1 : Int32)) = (1 : Int32) then (if ((y7 >>> (y9 &&& 31)) &&& (1 : Int32)) = 0 then (if ob_in (((7 : Int32) * y1) + y9) 35 = true then (if 0 ≤ (lg_cmp ((v_upper (((7 : Int32) * y1) + y9).toNatClampNeg) * v_rhoBy) v_rhoUp) then lp_X11_layRho_249 y1 y2 y3 v_heaps v_rhoUp v_rhoBy v_sets v_upper n y7 y8 (y9 + (1 : Int32)) else lp_X11_layRho_249 y1 y2 y3 v_heaps v_rhoUp v_rhoBy v_sets v_upper n (y7 ||| ((1 : Int32) <<< (y9 &&& 31))) (1 : Int32) (y9 + (1 : Int32))) else none) else lp_X11_layRho_249 y1 y2 y3 v_heaps v_rhoUp v_rhoBy v_sets v_upper n y7 y8 (y9 + (1 : Int32))) else lp_X11_layRho_249 y1 y2 y3 v_heaps v_rhoUp v_rhoBy v_sets v_upper n y7 y8 (y9 + (1 : Int32))) else none))
def lp_X11_layRho_95 (y1 : Int32) (y2 : Int32) (y3 : Int64) (v_heaps : Int32) (v_papers : Nat → Int32) (v_sets : Nat → Int32) (v_upper : Nat → Int64) : Nat → Int32 → Int32 → Int64 → Int64 → Option (Int64 × Int64)
  | 0, _, _, _, _ => none
  | n + 1, y7, y8, v_rhoUp, v_rhoBy => (if y8 = 0 then some (v_rhoUp, v_rhoBy) else (lp_X11_layRho_113 y1 y2 y3 y7 v_heaps v_papers v_sets v_upper FU (0 : Int32) y3 (0 : Int64)).bind (fun q33 => (lp_X11_layRho_249 y1 y2 y3 v_heaps q33.1 q33.2 v_sets v_upper FU y7 (0 : Int32) (0 : Int32)).bind (fun q43 => lp_X11_layRho_95 y1 y2 y3 v_heaps v_papers v_sets v_upper n q43.1 q43.2 q33.1 q33.2)))
def f_X11_layRho (x1 : Int32) (x2 : Int32) (v_heaps : Int32) (v_rhoUp : Int64) (v_rhoBy : Int64) (v_lower : Nat → Int64) (v_papers : Nat → Int32) (v_sets : Nat → Int32) (v_upper : Nat → Int64) : Option (Int32 × Int64 × Int64) := (f_X11_allPapers v_heaps v_papers).bind (fun q1 => (if ob_in x1 5 = true then (lp_X11_layRho_19 x1 x2 ((q1).toInt64 * (v_lower x1.toNatClampNeg)) v_heaps v_papers v_sets v_upper FU (0 : Int64) (0 : Int32)).bind (fun q8 => (f_X11_papersOf x2 v_heaps v_papers v_sets).bind (fun q9 => (if q9 = 0 then some ((0 : Int32), v_rhoUp, v_rhoBy) else (if 0 ≤ (lg_cmp q8 ((q1).toInt64 * (v_lower x1.toNatClampNeg))) then (lp_X11_layRho_95 x1 x2 ((q1).toInt64 * (v_lower x1.toNatClampNeg)) v_heaps v_papers v_sets v_upper FU (0 : Int32) (1 : Int32) v_rhoUp v_rhoBy).bind (fun q44 => some ((1 : Int32), q44.1, q44.2)) else some ((0 : Int32), v_rhoUp, v_rhoBy))))) else none))
set_option maxHeartbeats 4000000 in
set_option maxRecDepth 100000 in
theorem wl_X11_layRho_19 {p : Program} {l : Launch} {e : Env} {s : State} {m : MethodId} {args : Array Value} {below : List Frame} {meth : Method} {c : Code} {A : Nat → Prop} {Q : State → Prop} {D : va_G} {cyI cyJ cyZ : ClassId} {a_this a_sets a_papers a_worths a_sign a_hallSign a_chosen a_upper a_lower : Nat} {y1 : Int32} {y2 : Int32} {y3 : Int64} {v_heaps : Int32} {v_seats : Int32} {v_signs : Int32} {v_hallMany : Int32} {v_chosenSet : Int32} {v_paidSeats : Int32} {v_rhoUp : Int64} {v_rhoBy : Int64} {v_breachGroup : Int32} {v_lower : Nat → Int64} {v_papers : Nat → Int32} {v_sets : Nat → Int32} {v_upper : Nat → Int64} (C : kC p s m args c cX11_layRho 12 RX11 wsX11_layRho D (kTy cyI cyJ cyZ) A) :
    ∀ (n : Nat) (y5 : Int64) (y7 : Int32) (q : Int64) (H : Heap) (locs : List Loc) (ls : Array Slot), lp_X11_layRho_19 y1 y2 y3 v_heaps v_papers v_sets v_upper n y5 y7 = some q → (∀ (H : Heap) (locs : List Loc) (ls : Array Slot), va_P D vwCl (wd_X11_layRho cyI cyJ cyZ a_this a_sets a_papers a_worths a_sign a_hallSign a_chosen a_upper a_lower v_heaps v_seats v_signs v_hallMany v_chosenSet v_paidSeats v_rhoUp v_rhoBy v_breachGroup v_lower v_papers v_sets v_upper) H → va_D A (wd_X11_layRho cyI cyJ cyZ a_this a_sets a_papers a_worths a_sign a_hallSign a_chosen a_upper a_lower v_heaps v_seats v_signs v_hallMany v_chosenSet v_paidSeats v_rhoUp v_rhoBy v_breachGroup v_lower v_papers v_sets v_upper) → va_S A s.heap H locs → lv_has ls 12 [(0, .ref a_this), (1, .int y1), (2, .int y2), (3, .long y3), (5, .long q)] → W p l e rm_X11_layRho s m args below meth c H locs 0 0 Q (F0 m 72 ls [])) → va_P D vwCl (wd_X11_layRho cyI cyJ cyZ a_this a_sets a_papers a_worths a_sign a_hallSign a_chosen a_upper a_lower v_heaps v_seats v_signs v_hallMany v_chosenSet v_paidSeats v_rhoUp v_rhoBy v_breachGroup v_lower v_papers v_sets v_upper) H → va_D A (wd_X11_layRho cyI cyJ cyZ a_this a_sets a_papers a_worths a_sign a_hallSign a_chosen a_upper a_lower v_heaps v_seats v_signs v_hallMany v_chosenSet v_paidSeats v_rhoUp v_rhoBy v_breachGroup v_lower v_papers v_sets v_upper) → va_S A s.heap H locs → lv_has ls 12 [(0, .ref a_this), (1, .int y1), (2, .int y2), (3, .long y3), (5, .long y5), (7, .int y7)] → W p l e rm_X11_layRho s m args below meth c H locs 0 0 Q (F0 m 19 ls []) := by
  obtain ⟨hx, hb, hml, hown, hts, hK, hA⟩ := id C
  have iX11 : ∀ w ∈ u_ws RX11 TX11 17, w ∈ wsX11_layRho := by decide +kernel
  have fl7 := hts (.fieldLink RX11 7 "FairSeatsModel" "sets" "[I") (by decide +kernel)
  have fl13 := hts (.fieldLink RX11 13 "FairSeatsModel" "papers" "[I") (by decide +kernel)
  have fl32 := hts (.fieldLink RX11 32 "FairSeatsModel" "upper" "[J") (by decide +kernel)
  have fl39 := hts (.fieldLink RX11 39 "FairSeatsModel" "heaps" "I") (by decide +kernel)
  intro n
  induction n with
  | zero =>
    intro y5 y7 q H locs ls hf K hP hD hS hl
    rw [lp_X11_layRho_19] at hf
    cases hf
  | succ n ih =>
    intro y5 y7 q H locs ls hf K hP hD hS hl
    rw [lp_X11_layRho_19] at hf
    refine lv_iload hx hb dX11_layRho_19 (lv_at hl 5 rfl) ?_
    refine lv_aload_n hx hb dX11_layRho_21 rfl (lv_at hl 0 rfl) ?_
    refine va_get (D := D) (ci := 10) (v := .int v_heaps) (C := RX11) (T := TX11) (N := 17) hx hb hts iX11 hown hK hP 0 rfl rfl 0 (by decide) fl39 (fun _ h9 => h9) rfl dX11_layRho_22 ?_
    refine lv_icmp_ge (tgt := 72) hx hb dX11_layRho_25 (by decide) (fun c3 => ?_) (fun c3 => ?_)
    · have hf := ob_pos c3 hf
      obtain rfl := Option.some.inj hf
      exact K _ _ _ hP hD hS (lv_sub hl [0, 1, 2, 3, 4] rfl)
    · have hf := ob_neg c3 hf
      refine lv_lload hx hb dX11_layRho_28 (lv_at hl 4 rfl) ?_
      refine lv_aload_n hx hb dX11_layRho_30 rfl (lv_at hl 0 rfl) ?_
      refine va_get (D := D) (ci := 10) (v := .ref a_sets) (C := RX11) (T := TX11) (N := 17) hx hb hts iX11 hown hK hP 0 rfl rfl 1 (by decide) fl7 (fun _ h9 => h9) rfl dX11_layRho_31 ?_
      refine lv_iload hx hb dX11_layRho_34 (lv_at hl 5 rfl) ?_
      obtain ⟨h4, hf⟩ := og_in hf
      refine va_iald hx hb hK hP 3 0 rfl rfl h4 dX11_layRho_36 ?_
      refine lv_iload_n hx hb dX11_layRho_37 rfl (lv_at hl 2 rfl) ?_
      refine lv_ishr hx hb dX11_layRho_38 ?_
      refine lv_iconst (v := (1 : Int32)) hx hb dX11_layRho_39 (by decide) ?_
      refine lv_iand hx hb dX11_layRho_40 ?_
      refine lv_aload_n hx hb dX11_layRho_41 rfl (lv_at hl 0 rfl) ?_
      refine va_get (D := D) (ci := 10) (v := .ref a_papers) (C := RX11) (T := TX11) (N := 17) hx hb hts iX11 hown hK hP 0 rfl rfl 2 (by decide) fl13 (fun _ h9 => h9) rfl dX11_layRho_42 ?_
      refine lv_iload hx hb dX11_layRho_45 (lv_at hl 5 rfl) ?_
      obtain ⟨h5, hf⟩ := og_in hf
      refine va_iald hx hb hK hP 2 0 rfl rfl h5 dX11_layRho_47 ?_
      refine lv_imul hx hb dX11_layRho_48 ?_
      refine lv_i2l (v := (((((v_sets y7.toNatClampNeg) >>> (y2 &&& 31)) &&& (1 : Int32)) * (v_papers y7.toNatClampNeg))).toInt64) hx hb dX11_layRho_49 rfl ?_
      refine lv_aload_n hx hb dX11_layRho_50 rfl (lv_at hl 0 rfl) ?_
      refine va_get (D := D) (ci := 10) (v := .ref a_upper) (C := RX11) (T := TX11) (N := 17) hx hb hts iX11 hown hK hP 0 rfl rfl 12 (by decide) fl32 (fun _ h9 => h9) rfl dX11_layRho_51 ?_
      refine lv_bipush (v := (7 : Int32)) hx hb dX11_layRho_54 (by decide) ?_
      refine lv_iload_n hx hb dX11_layRho_56 rfl (lv_at hl 1 rfl) ?_
      refine lv_imul hx hb dX11_layRho_57 ?_
      refine lv_iload hx hb dX11_layRho_58 (lv_at hl 5 rfl) ?_
      refine lv_iadd hx hb dX11_layRho_60 ?_
      obtain ⟨h6, hf⟩ := og_in hf
      refine va_lald hx hb hK hP 4 1 rfl rfl h6 dX11_layRho_61 ?_
      refine lv_lmul hx hb dX11_layRho_62 ?_
      refine lv_ladd hx hb dX11_layRho_63 ?_
      obtain ⟨b7, eb7, hf⟩ := ob_letE hf
      refine lv_topl (fun t9 e9 => ?_)
      obtain rfl : b7 = t9 := eb7.trans e9.symm
      refine lv_lstore (lv' := [(5, .long b7), (0, .ref a_this), (1, .int y1), (2, .int y2), (3, .long y3), (7, .int y7)]) hx hb dX11_layRho_64 hl (by decide) rfl (fun ls hl => ?_)
      refine lv_iinc (v := (y7 + (1 : Int32))) (lv' := [(7, .int (y7 + (1 : Int32))), (5, .long b7), (0, .ref a_this), (1, .int y1), (2, .int y2), (3, .long y3)]) hx hb dX11_layRho_66 hl (k := 5) rfl rfl (by decide) rfl (fun ls hl => ?_)
      refine lv_goto (tgt := 19) hx hb dX11_layRho_69 (by decide) ?_
      exact ih b7 (y7 + (1 : Int32)) _ _ _ _ hf K hP hD hS (lv_sub hl [2, 3, 4, 5, 1, 0] rfl)
set_option maxHeartbeats 4000000 in
set_option maxRecDepth 100000 in
theorem wl_X11_layRho_113 {p : Program} {l : Launch} {e : Env} {s : State} {m : MethodId} {args : Array Value} {below : List Frame} {meth : Method} {c : Code} {A : Nat → Prop} {Q : State → Prop} {D : va_G} {cyI cyJ cyZ : ClassId} {a_this a_sets a_papers a_worths a_sign a_hallSign a_chosen a_upper a_lower : Nat} {y1 : Int32} {y2 : Int32} {y3 : Int64} {y7 : Int32} {v_heaps : Int32} {v_seats : Int32} {v_signs : Int32} {v_hallMany : Int32} {v_chosenSet : Int32} {v_paidSeats : Int32} {v_breachGroup : Int32} {v_lower : Nat → Int64} {v_papers : Nat → Int32} {v_sets : Nat → Int32} {v_upper : Nat → Int64} (C : kC p s m args c cX11_layRho 12 RX11 wsX11_layRho D (kTy cyI cyJ cyZ) A) :
    ∀ (n : Nat) (y9 : Int32) (v_rhoUp : Int64) (v_rhoBy : Int64) (q : Int64 × Int64) (H : Heap) (locs : List Loc) (ls : Array Slot), lp_X11_layRho_113 y1 y2 y3 y7 v_heaps v_papers v_sets v_upper n y9 v_rhoUp v_rhoBy = some q → (∀ (H : Heap) (locs : List Loc) (ls : Array Slot), va_P D vwCl (wd_X11_layRho cyI cyJ cyZ a_this a_sets a_papers a_worths a_sign a_hallSign a_chosen a_upper a_lower v_heaps v_seats v_signs v_hallMany v_chosenSet v_paidSeats q.1 q.2 v_breachGroup v_lower v_papers v_sets v_upper) H → va_D A (wd_X11_layRho cyI cyJ cyZ a_this a_sets a_papers a_worths a_sign a_hallSign a_chosen a_upper a_lower v_heaps v_seats v_signs v_hallMany v_chosenSet v_paidSeats q.1 q.2 v_breachGroup v_lower v_papers v_sets v_upper) → va_S A s.heap H locs → lv_has ls 12 [(0, .ref a_this), (1, .int y1), (2, .int y2), (3, .long y3), (7, .int y7)] → W p l e rm_X11_layRho s m args below meth c H locs 0 0 Q (F0 m 243 ls [])) → va_P D vwCl (wd_X11_layRho cyI cyJ cyZ a_this a_sets a_papers a_worths a_sign a_hallSign a_chosen a_upper a_lower v_heaps v_seats v_signs v_hallMany v_chosenSet v_paidSeats v_rhoUp v_rhoBy v_breachGroup v_lower v_papers v_sets v_upper) H → va_D A (wd_X11_layRho cyI cyJ cyZ a_this a_sets a_papers a_worths a_sign a_hallSign a_chosen a_upper a_lower v_heaps v_seats v_signs v_hallMany v_chosenSet v_paidSeats v_rhoUp v_rhoBy v_breachGroup v_lower v_papers v_sets v_upper) → va_S A s.heap H locs → lv_has ls 12 [(0, .ref a_this), (1, .int y1), (2, .int y2), (3, .long y3), (7, .int y7), (9, .int y9)] → W p l e rm_X11_layRho s m args below meth c H locs 0 0 Q (F0 m 113 ls []) := by
  obtain ⟨hx, hb, hml, hown, hts, hK, hA⟩ := id C
  have iX11 : ∀ w ∈ u_ws RX11 TX11 17, w ∈ wsX11_layRho := by decide +kernel
  have fl7 := hts (.fieldLink RX11 7 "FairSeatsModel" "sets" "[I") (by decide +kernel)
  have fl13 := hts (.fieldLink RX11 13 "FairSeatsModel" "papers" "[I") (by decide +kernel)
  have fl32 := hts (.fieldLink RX11 32 "FairSeatsModel" "upper" "[J") (by decide +kernel)
  have fl39 := hts (.fieldLink RX11 39 "FairSeatsModel" "heaps" "I") (by decide +kernel)
  have fl99 := hts (.fieldLink RX11 99 "FairSeatsModel" "rhoUp" "J") (by decide +kernel)
  have fl103 := hts (.fieldLink RX11 103 "FairSeatsModel" "rhoBy" "J") (by decide +kernel)
  intro n
  induction n with
  | zero =>
    intro y9 v_rhoUp v_rhoBy q H locs ls hf K hP hD hS hl
    rw [lp_X11_layRho_113] at hf
    cases hf
  | succ n ih =>
    intro y9 v_rhoUp v_rhoBy q H locs ls hf K hP hD hS hl
    rw [lp_X11_layRho_113] at hf
    refine lv_iload hx hb dX11_layRho_113 (lv_at hl 5 rfl) ?_
    refine lv_aload_n hx hb dX11_layRho_115 rfl (lv_at hl 0 rfl) ?_
    refine va_get (D := D) (ci := 10) (v := .int v_heaps) (C := RX11) (T := TX11) (N := 17) hx hb hts iX11 hown hK hP 0 rfl rfl 0 (by decide) fl39 (fun _ h9 => h9) rfl dX11_layRho_116 ?_
    refine lv_icmp_ge (tgt := 243) hx hb dX11_layRho_119 (by decide) (fun c13 => ?_) (fun c13 => ?_)
    · have hf := ob_pos c13 hf
      obtain rfl := Option.some.inj hf
      exact K _ _ _ hP hD hS (lv_sub hl [0, 1, 2, 3, 4] rfl)
    · have hf := ob_neg c13 hf
      refine lv_aload_n hx hb dX11_layRho_122 rfl (lv_at hl 0 rfl) ?_
      refine va_get (D := D) (ci := 10) (v := .ref a_sets) (C := RX11) (T := TX11) (N := 17) hx hb hts iX11 hown hK hP 0 rfl rfl 1 (by decide) fl7 (fun _ h9 => h9) rfl dX11_layRho_123 ?_
      refine lv_iload hx hb dX11_layRho_126 (lv_at hl 5 rfl) ?_
      obtain ⟨h14, hf⟩ := og_in hf
      refine va_iald hx hb hK hP 3 0 rfl rfl h14 dX11_layRho_128 ?_
      refine lv_iload_n hx hb dX11_layRho_129 rfl (lv_at hl 2 rfl) ?_
      refine lv_ishr hx hb dX11_layRho_130 ?_
      refine lv_iconst (v := (1 : Int32)) hx hb dX11_layRho_131 (by decide) ?_
      refine lv_iand hx hb dX11_layRho_132 ?_
      refine lv_iconst (v := (1 : Int32)) hx hb dX11_layRho_133 (by decide) ?_
      refine lv_icmp_ne (tgt := 141) hx hb dX11_layRho_134 (by decide) (fun c15 => ?_) (fun c15 => ?_)
      · have hf := ob_neg c15 hf
        refine lv_iconst (v := (0 : Int32)) hx hb dX11_layRho_141 (by decide) ?_
        refine lv_istore (lv' := [(10, .int (0 : Int32)), (0, .ref a_this), (1, .int y1), (2, .int y2), (3, .long y3), (7, .int y7), (9, .int y9)]) hx hb dX11_layRho_142 hl (by decide) rfl (fun ls hl => ?_)
        refine lv_iload hx hb dX11_layRho_144 (lv_at hl 5 rfl) ?_
        refine lv_iload hx hb dX11_layRho_146 (lv_at hl 6 rfl) ?_
        refine lv_ishr hx hb dX11_layRho_148 ?_
        refine lv_iconst (v := (1 : Int32)) hx hb dX11_layRho_149 (by decide) ?_
        refine lv_iand hx hb dX11_layRho_150 ?_
        refine lv_iconst (v := (1 : Int32)) hx hb dX11_layRho_151 (by decide) ?_
        refine lv_icmp_ne (tgt := 159) hx hb dX11_layRho_152 (by decide) (fun c16 => ?_) (fun c16 => ?_)
        · have hf := ob_neg c16 hf
          refine lv_iconst (v := (0 : Int32)) hx hb dX11_layRho_159 (by decide) ?_
          refine lv_istore (lv' := [(11, .int (0 : Int32)), (10, .int (0 : Int32)), (0, .ref a_this), (1, .int y1), (2, .int y2), (3, .long y3), (7, .int y7), (9, .int y9)]) hx hb dX11_layRho_160 hl (by decide) rfl (fun ls hl => ?_)
          refine lv_aload_n hx hb dX11_layRho_162 rfl (lv_at hl 2 rfl) ?_
          refine lv_dup hx hb dX11_layRho_163 rfl ?_
          refine va_get (D := D) (ci := 10) (v := .long v_rhoUp) (C := RX11) (T := TX11) (N := 17) hx hb hts iX11 hown hK hP 0 rfl rfl 14 (by decide) fl99 (fun _ h9 => h9) rfl dX11_layRho_164 ?_
          refine lv_iload hx hb dX11_layRho_167 (lv_at hl 1 rfl) ?_
          refine lv_if_eq (tgt := 201) hx hb dX11_layRho_169 (by decide) (fun c17 => ?_) (fun c17 => ?_)
          · refine lv_lconst (v := 0) hx hb dX11_layRho_201 (by decide) ?_
            refine lv_lsub hx hb dX11_layRho_202 ?_
            refine va_put (D := D) (ci := 10) (v := .long (v_rhoUp - (0 : Int64))) (ty := .long) (C := RX11) (T := TX11) (N := 17) hx hb hts iX11 tyX11 tyX11_ok nmX11 hown hK hP hD hS 0 rfl rfl 14 (by decide) fl99 (fun _ h9 => h9) rfl (by decide +kernel) rfl rfl (Nat.le_of_ble_eq_true rfl) dX11_layRho_203 (fun H locs hP hD hS => ?_)
            have hP : va_P D vwCl (wd_X11_layRho cyI cyJ cyZ a_this a_sets a_papers a_worths a_sign a_hallSign a_chosen a_upper a_lower v_heaps v_seats v_signs v_hallMany v_chosenSet v_paidSeats (v_rhoUp - (0 : Int64)) v_rhoBy v_breachGroup v_lower v_papers v_sets v_upper) H := hP
            have hD : va_D A (wd_X11_layRho cyI cyJ cyZ a_this a_sets a_papers a_worths a_sign a_hallSign a_chosen a_upper a_lower v_heaps v_seats v_signs v_hallMany v_chosenSet v_paidSeats (v_rhoUp - (0 : Int64)) v_rhoBy v_breachGroup v_lower v_papers v_sets v_upper) := hD
            refine lv_aload_n hx hb dX11_layRho_206 rfl (lv_at hl 2 rfl) ?_
            refine lv_dup hx hb dX11_layRho_207 rfl ?_
            refine va_get (D := D) (ci := 10) (v := .long v_rhoBy) (C := RX11) (T := TX11) (N := 17) hx hb hts iX11 hown hK hP 0 rfl rfl 15 (by decide) fl103 (fun _ h9 => h9) rfl dX11_layRho_208 ?_
            refine lv_iload hx hb dX11_layRho_211 (lv_at hl 1 rfl) ?_
            refine lv_if_eq (tgt := 232) hx hb dX11_layRho_213 (by decide) (fun c18 => ?_) (fun c18 => ?_)
            · refine lv_lconst (v := 0) hx hb dX11_layRho_232 (by decide) ?_
              refine lv_ladd hx hb dX11_layRho_233 ?_
              refine va_put (D := D) (ci := 10) (v := .long (v_rhoBy + (0 : Int64))) (ty := .long) (C := RX11) (T := TX11) (N := 17) hx hb hts iX11 tyX11 tyX11_ok nmX11 hown hK hP hD hS 0 rfl rfl 15 (by decide) fl103 (fun _ h9 => h9) rfl (by decide +kernel) rfl rfl (Nat.le_of_ble_eq_true rfl) dX11_layRho_234 (fun H locs hP hD hS => ?_)
              have hP : va_P D vwCl (wd_X11_layRho cyI cyJ cyZ a_this a_sets a_papers a_worths a_sign a_hallSign a_chosen a_upper a_lower v_heaps v_seats v_signs v_hallMany v_chosenSet v_paidSeats (v_rhoUp - (0 : Int64)) (v_rhoBy + (0 : Int64)) v_breachGroup v_lower v_papers v_sets v_upper) H := hP
              have hD : va_D A (wd_X11_layRho cyI cyJ cyZ a_this a_sets a_papers a_worths a_sign a_hallSign a_chosen a_upper a_lower v_heaps v_seats v_signs v_hallMany v_chosenSet v_paidSeats (v_rhoUp - (0 : Int64)) (v_rhoBy + (0 : Int64)) v_breachGroup v_lower v_papers v_sets v_upper) := hD
              refine lv_iinc (v := (y9 + (1 : Int32))) (lv' := [(9, .int (y9 + (1 : Int32))), (11, .int (0 : Int32)), (10, .int (0 : Int32)), (0, .ref a_this), (1, .int y1), (2, .int y2), (3, .long y3), (7, .int y7)]) hx hb dX11_layRho_237 hl (k := 7) rfl rfl (by decide) rfl (fun ls hl => ?_)
              refine lv_goto (tgt := 113) hx hb dX11_layRho_240 (by decide) ?_
              exact ih (y9 + (1 : Int32)) (v_rhoUp - (0 : Int64)) (v_rhoBy + (0 : Int64)) _ _ _ _ hf K hP hD hS (lv_sub hl [3, 4, 5, 6, 7, 0] rfl)
            · exact absurd c18 (by decide)
          · exact absurd c17 (by decide)
        · have hf := ob_pos c16 hf
          refine lv_iconst (v := (1 : Int32)) hx hb dX11_layRho_155 (by decide) ?_
          refine lv_goto (tgt := 160) hx hb dX11_layRho_156 (by decide) ?_
          refine lv_istore (lv' := [(11, .int (1 : Int32)), (10, .int (0 : Int32)), (0, .ref a_this), (1, .int y1), (2, .int y2), (3, .long y3), (7, .int y7), (9, .int y9)]) hx hb dX11_layRho_160 hl (by decide) rfl (fun ls hl => ?_)
          refine lv_aload_n hx hb dX11_layRho_162 rfl (lv_at hl 2 rfl) ?_
          refine lv_dup hx hb dX11_layRho_163 rfl ?_
          refine va_get (D := D) (ci := 10) (v := .long v_rhoUp) (C := RX11) (T := TX11) (N := 17) hx hb hts iX11 hown hK hP 0 rfl rfl 14 (by decide) fl99 (fun _ h9 => h9) rfl dX11_layRho_164 ?_
          refine lv_iload hx hb dX11_layRho_167 (lv_at hl 1 rfl) ?_
          refine lv_if_eq (tgt := 201) hx hb dX11_layRho_169 (by decide) (fun c19 => ?_) (fun c19 => ?_)
          · refine lv_lconst (v := 0) hx hb dX11_layRho_201 (by decide) ?_
            refine lv_lsub hx hb dX11_layRho_202 ?_
            refine va_put (D := D) (ci := 10) (v := .long (v_rhoUp - (0 : Int64))) (ty := .long) (C := RX11) (T := TX11) (N := 17) hx hb hts iX11 tyX11 tyX11_ok nmX11 hown hK hP hD hS 0 rfl rfl 14 (by decide) fl99 (fun _ h9 => h9) rfl (by decide +kernel) rfl rfl (Nat.le_of_ble_eq_true rfl) dX11_layRho_203 (fun H locs hP hD hS => ?_)
            have hP : va_P D vwCl (wd_X11_layRho cyI cyJ cyZ a_this a_sets a_papers a_worths a_sign a_hallSign a_chosen a_upper a_lower v_heaps v_seats v_signs v_hallMany v_chosenSet v_paidSeats (v_rhoUp - (0 : Int64)) v_rhoBy v_breachGroup v_lower v_papers v_sets v_upper) H := hP
            have hD : va_D A (wd_X11_layRho cyI cyJ cyZ a_this a_sets a_papers a_worths a_sign a_hallSign a_chosen a_upper a_lower v_heaps v_seats v_signs v_hallMany v_chosenSet v_paidSeats (v_rhoUp - (0 : Int64)) v_rhoBy v_breachGroup v_lower v_papers v_sets v_upper) := hD
            refine lv_aload_n hx hb dX11_layRho_206 rfl (lv_at hl 2 rfl) ?_
            refine lv_dup hx hb dX11_layRho_207 rfl ?_
            refine va_get (D := D) (ci := 10) (v := .long v_rhoBy) (C := RX11) (T := TX11) (N := 17) hx hb hts iX11 hown hK hP 0 rfl rfl 15 (by decide) fl103 (fun _ h9 => h9) rfl dX11_layRho_208 ?_
            refine lv_iload hx hb dX11_layRho_211 (lv_at hl 1 rfl) ?_
            refine lv_if_eq (tgt := 232) hx hb dX11_layRho_213 (by decide) (fun c20 => ?_) (fun c20 => ?_)
            · refine lv_lconst (v := 0) hx hb dX11_layRho_232 (by decide) ?_
              refine lv_ladd hx hb dX11_layRho_233 ?_
              refine va_put (D := D) (ci := 10) (v := .long (v_rhoBy + (0 : Int64))) (ty := .long) (C := RX11) (T := TX11) (N := 17) hx hb hts iX11 tyX11 tyX11_ok nmX11 hown hK hP hD hS 0 rfl rfl 15 (by decide) fl103 (fun _ h9 => h9) rfl (by decide +kernel) rfl rfl (Nat.le_of_ble_eq_true rfl) dX11_layRho_234 (fun H locs hP hD hS => ?_)
              have hP : va_P D vwCl (wd_X11_layRho cyI cyJ cyZ a_this a_sets a_papers a_worths a_sign a_hallSign a_chosen a_upper a_lower v_heaps v_seats v_signs v_hallMany v_chosenSet v_paidSeats (v_rhoUp - (0 : Int64)) (v_rhoBy + (0 : Int64)) v_breachGroup v_lower v_papers v_sets v_upper) H := hP
              have hD : va_D A (wd_X11_layRho cyI cyJ cyZ a_this a_sets a_papers a_worths a_sign a_hallSign a_chosen a_upper a_lower v_heaps v_seats v_signs v_hallMany v_chosenSet v_paidSeats (v_rhoUp - (0 : Int64)) (v_rhoBy + (0 : Int64)) v_breachGroup v_lower v_papers v_sets v_upper) := hD
              refine lv_iinc (v := (y9 + (1 : Int32))) (lv' := [(9, .int (y9 + (1 : Int32))), (11, .int (1 : Int32)), (10, .int (0 : Int32)), (0, .ref a_this), (1, .int y1), (2, .int y2), (3, .long y3), (7, .int y7)]) hx hb dX11_layRho_237 hl (k := 7) rfl rfl (by decide) rfl (fun ls hl => ?_)
              refine lv_goto (tgt := 113) hx hb dX11_layRho_240 (by decide) ?_
              exact ih (y9 + (1 : Int32)) (v_rhoUp - (0 : Int64)) (v_rhoBy + (0 : Int64)) _ _ _ _ hf K hP hD hS (lv_sub hl [3, 4, 5, 6, 7, 0] rfl)
            · exact absurd c20 (by decide)
          · exact absurd c19 (by decide)
      · have hf := ob_pos c15 hf
        refine lv_iconst (v := (1 : Int32)) hx hb dX11_layRho_137 (by decide) ?_
        refine lv_goto (tgt := 142) hx hb dX11_layRho_138 (by decide) ?_
        refine lv_istore (lv' := [(10, .int (1 : Int32)), (0, .ref a_this), (1, .int y1), (2, .int y2), (3, .long y3), (7, .int y7), (9, .int y9)]) hx hb dX11_layRho_142 hl (by decide) rfl (fun ls hl => ?_)
        refine lv_iload hx hb dX11_layRho_144 (lv_at hl 5 rfl) ?_
        refine lv_iload hx hb dX11_layRho_146 (lv_at hl 6 rfl) ?_
        refine lv_ishr hx hb dX11_layRho_148 ?_
        refine lv_iconst (v := (1 : Int32)) hx hb dX11_layRho_149 (by decide) ?_
        refine lv_iand hx hb dX11_layRho_150 ?_
        refine lv_iconst (v := (1 : Int32)) hx hb dX11_layRho_151 (by decide) ?_
        refine lv_icmp_ne (tgt := 159) hx hb dX11_layRho_152 (by decide) (fun c21 => ?_) (fun c21 => ?_)
        · have hf := ob_neg c21 hf
          refine lv_iconst (v := (0 : Int32)) hx hb dX11_layRho_159 (by decide) ?_
          refine lv_istore (lv' := [(11, .int (0 : Int32)), (10, .int (1 : Int32)), (0, .ref a_this), (1, .int y1), (2, .int y2), (3, .long y3), (7, .int y7), (9, .int y9)]) hx hb dX11_layRho_160 hl (by decide) rfl (fun ls hl => ?_)
          refine lv_aload_n hx hb dX11_layRho_162 rfl (lv_at hl 2 rfl) ?_
          refine lv_dup hx hb dX11_layRho_163 rfl ?_
          refine va_get (D := D) (ci := 10) (v := .long v_rhoUp) (C := RX11) (T := TX11) (N := 17) hx hb hts iX11 hown hK hP 0 rfl rfl 14 (by decide) fl99 (fun _ h9 => h9) rfl dX11_layRho_164 ?_
          refine lv_iload hx hb dX11_layRho_167 (lv_at hl 1 rfl) ?_
          refine lv_if_eq (tgt := 201) hx hb dX11_layRho_169 (by decide) (fun c22 => ?_) (fun c22 => ?_)
          · exact absurd c22 (by decide)
          · refine lv_iload hx hb dX11_layRho_172 (lv_at hl 0 rfl) ?_
            refine lv_if_eq (tgt := 201) hx hb dX11_layRho_174 (by decide) (fun c23 => ?_) (fun c23 => ?_)
            · refine lv_lconst (v := 0) hx hb dX11_layRho_201 (by decide) ?_
              refine lv_lsub hx hb dX11_layRho_202 ?_
              refine va_put (D := D) (ci := 10) (v := .long (v_rhoUp - (0 : Int64))) (ty := .long) (C := RX11) (T := TX11) (N := 17) hx hb hts iX11 tyX11 tyX11_ok nmX11 hown hK hP hD hS 0 rfl rfl 14 (by decide) fl99 (fun _ h9 => h9) rfl (by decide +kernel) rfl rfl (Nat.le_of_ble_eq_true rfl) dX11_layRho_203 (fun H locs hP hD hS => ?_)
              have hP : va_P D vwCl (wd_X11_layRho cyI cyJ cyZ a_this a_sets a_papers a_worths a_sign a_hallSign a_chosen a_upper a_lower v_heaps v_seats v_signs v_hallMany v_chosenSet v_paidSeats (v_rhoUp - (0 : Int64)) v_rhoBy v_breachGroup v_lower v_papers v_sets v_upper) H := hP
              have hD : va_D A (wd_X11_layRho cyI cyJ cyZ a_this a_sets a_papers a_worths a_sign a_hallSign a_chosen a_upper a_lower v_heaps v_seats v_signs v_hallMany v_chosenSet v_paidSeats (v_rhoUp - (0 : Int64)) v_rhoBy v_breachGroup v_lower v_papers v_sets v_upper) := hD
              refine lv_aload_n hx hb dX11_layRho_206 rfl (lv_at hl 2 rfl) ?_
              refine lv_dup hx hb dX11_layRho_207 rfl ?_
              refine va_get (D := D) (ci := 10) (v := .long v_rhoBy) (C := RX11) (T := TX11) (N := 17) hx hb hts iX11 hown hK hP 0 rfl rfl 15 (by decide) fl103 (fun _ h9 => h9) rfl dX11_layRho_208 ?_
              refine lv_iload hx hb dX11_layRho_211 (lv_at hl 1 rfl) ?_
              refine lv_if_eq (tgt := 232) hx hb dX11_layRho_213 (by decide) (fun c24 => ?_) (fun c24 => ?_)
              · exact absurd c24 (by decide)
              · refine lv_iload hx hb dX11_layRho_216 (lv_at hl 0 rfl) ?_
                refine lv_if_ne (tgt := 232) hx hb dX11_layRho_218 (by decide) (fun c25 => ?_) (fun c25 => ?_)
                · exact absurd c25 (by decide)
                · refine lv_aload_n hx hb dX11_layRho_221 rfl (lv_at hl 2 rfl) ?_
                  refine va_get (D := D) (ci := 10) (v := .ref a_papers) (C := RX11) (T := TX11) (N := 17) hx hb hts iX11 hown hK hP 0 rfl rfl 2 (by decide) fl13 (fun _ h9 => h9) rfl dX11_layRho_222 ?_
                  refine lv_iload hx hb dX11_layRho_225 (lv_at hl 7 rfl) ?_
                  obtain ⟨h26, hf⟩ := og_in hf
                  refine va_iald hx hb hK hP 2 0 rfl rfl h26 dX11_layRho_227 ?_
                  refine lv_i2l (v := ((v_papers y9.toNatClampNeg)).toInt64) hx hb dX11_layRho_228 rfl ?_
                  refine lv_goto (tgt := 233) hx hb dX11_layRho_229 (by decide) ?_
                  refine lv_ladd hx hb dX11_layRho_233 ?_
                  refine va_put (D := D) (ci := 10) (v := .long (v_rhoBy + ((v_papers y9.toNatClampNeg)).toInt64)) (ty := .long) (C := RX11) (T := TX11) (N := 17) hx hb hts iX11 tyX11 tyX11_ok nmX11 hown hK hP hD hS 0 rfl rfl 15 (by decide) fl103 (fun _ h9 => h9) rfl (by decide +kernel) rfl rfl (Nat.le_of_ble_eq_true rfl) dX11_layRho_234 (fun H locs hP hD hS => ?_)
                  have hP : va_P D vwCl (wd_X11_layRho cyI cyJ cyZ a_this a_sets a_papers a_worths a_sign a_hallSign a_chosen a_upper a_lower v_heaps v_seats v_signs v_hallMany v_chosenSet v_paidSeats (v_rhoUp - (0 : Int64)) (v_rhoBy + ((v_papers y9.toNatClampNeg)).toInt64) v_breachGroup v_lower v_papers v_sets v_upper) H := hP
                  have hD : va_D A (wd_X11_layRho cyI cyJ cyZ a_this a_sets a_papers a_worths a_sign a_hallSign a_chosen a_upper a_lower v_heaps v_seats v_signs v_hallMany v_chosenSet v_paidSeats (v_rhoUp - (0 : Int64)) (v_rhoBy + ((v_papers y9.toNatClampNeg)).toInt64) v_breachGroup v_lower v_papers v_sets v_upper) := hD
                  refine lv_iinc (v := (y9 + (1 : Int32))) (lv' := [(9, .int (y9 + (1 : Int32))), (11, .int (0 : Int32)), (10, .int (1 : Int32)), (0, .ref a_this), (1, .int y1), (2, .int y2), (3, .long y3), (7, .int y7)]) hx hb dX11_layRho_237 hl (k := 7) rfl rfl (by decide) rfl (fun ls hl => ?_)
                  refine lv_goto (tgt := 113) hx hb dX11_layRho_240 (by decide) ?_
                  exact ih (y9 + (1 : Int32)) (v_rhoUp - (0 : Int64)) (v_rhoBy + ((v_papers y9.toNatClampNeg)).toInt64) _ _ _ _ hf K hP hD hS (lv_sub hl [3, 4, 5, 6, 7, 0] rfl)
            · exact absurd c23 (by decide)
        · have hf := ob_pos c21 hf
          refine lv_iconst (v := (1 : Int32)) hx hb dX11_layRho_155 (by decide) ?_
          refine lv_goto (tgt := 160) hx hb dX11_layRho_156 (by decide) ?_
          refine lv_istore (lv' := [(11, .int (1 : Int32)), (10, .int (1 : Int32)), (0, .ref a_this), (1, .int y1), (2, .int y2), (3, .long y3), (7, .int y7), (9, .int y9)]) hx hb dX11_layRho_160 hl (by decide) rfl (fun ls hl => ?_)
          refine lv_aload_n hx hb dX11_layRho_162 rfl (lv_at hl 2 rfl) ?_
          refine lv_dup hx hb dX11_layRho_163 rfl ?_
          refine va_get (D := D) (ci := 10) (v := .long v_rhoUp) (C := RX11) (T := TX11) (N := 17) hx hb hts iX11 hown hK hP 0 rfl rfl 14 (by decide) fl99 (fun _ h9 => h9) rfl dX11_layRho_164 ?_
          refine lv_iload hx hb dX11_layRho_167 (lv_at hl 1 rfl) ?_
          refine lv_if_eq (tgt := 201) hx hb dX11_layRho_169 (by decide) (fun c27 => ?_) (fun c27 => ?_)
          · exact absurd c27 (by decide)
          · refine lv_iload hx hb dX11_layRho_172 (lv_at hl 0 rfl) ?_
            refine lv_if_eq (tgt := 201) hx hb dX11_layRho_174 (by decide) (fun c28 => ?_) (fun c28 => ?_)
            · exact absurd c28 (by decide)
            · refine lv_aload_n hx hb dX11_layRho_177 rfl (lv_at hl 2 rfl) ?_
              refine va_get (D := D) (ci := 10) (v := .ref a_papers) (C := RX11) (T := TX11) (N := 17) hx hb hts iX11 hown hK hP 0 rfl rfl 2 (by decide) fl13 (fun _ h9 => h9) rfl dX11_layRho_178 ?_
              refine lv_iload hx hb dX11_layRho_181 (lv_at hl 7 rfl) ?_
              obtain ⟨h29, hf⟩ := og_in hf
              refine va_iald hx hb hK hP 2 0 rfl rfl h29 dX11_layRho_183 ?_
              refine lv_i2l (v := ((v_papers y9.toNatClampNeg)).toInt64) hx hb dX11_layRho_184 rfl ?_
              refine lv_aload_n hx hb dX11_layRho_185 rfl (lv_at hl 2 rfl) ?_
              refine va_get (D := D) (ci := 10) (v := .ref a_upper) (C := RX11) (T := TX11) (N := 17) hx hb hts iX11 hown hK hP 0 rfl rfl 12 (by decide) fl32 (fun _ h9 => h9) rfl dX11_layRho_186 ?_
              refine lv_bipush (v := (7 : Int32)) hx hb dX11_layRho_189 (by decide) ?_
              refine lv_iload_n hx hb dX11_layRho_191 rfl (lv_at hl 3 rfl) ?_
              refine lv_imul hx hb dX11_layRho_192 ?_
              refine lv_iload hx hb dX11_layRho_193 (lv_at hl 7 rfl) ?_
              refine lv_iadd hx hb dX11_layRho_195 ?_
              obtain ⟨h30, hf⟩ := og_in hf
              refine va_lald hx hb hK hP 4 1 rfl rfl h30 dX11_layRho_196 ?_
              refine lv_lmul hx hb dX11_layRho_197 ?_
              refine lv_goto (tgt := 202) hx hb dX11_layRho_198 (by decide) ?_
              refine lv_lsub hx hb dX11_layRho_202 ?_
              refine va_put (D := D) (ci := 10) (v := .long (v_rhoUp - (((v_papers y9.toNatClampNeg)).toInt64 * (v_upper (((7 : Int32) * y1) + y9).toNatClampNeg)))) (ty := .long) (C := RX11) (T := TX11) (N := 17) hx hb hts iX11 tyX11 tyX11_ok nmX11 hown hK hP hD hS 0 rfl rfl 14 (by decide) fl99 (fun _ h9 => h9) rfl (by decide +kernel) rfl rfl (Nat.le_of_ble_eq_true rfl) dX11_layRho_203 (fun H locs hP hD hS => ?_)
              have hP : va_P D vwCl (wd_X11_layRho cyI cyJ cyZ a_this a_sets a_papers a_worths a_sign a_hallSign a_chosen a_upper a_lower v_heaps v_seats v_signs v_hallMany v_chosenSet v_paidSeats (v_rhoUp - (((v_papers y9.toNatClampNeg)).toInt64 * (v_upper (((7 : Int32) * y1) + y9).toNatClampNeg))) v_rhoBy v_breachGroup v_lower v_papers v_sets v_upper) H := hP
              have hD : va_D A (wd_X11_layRho cyI cyJ cyZ a_this a_sets a_papers a_worths a_sign a_hallSign a_chosen a_upper a_lower v_heaps v_seats v_signs v_hallMany v_chosenSet v_paidSeats (v_rhoUp - (((v_papers y9.toNatClampNeg)).toInt64 * (v_upper (((7 : Int32) * y1) + y9).toNatClampNeg))) v_rhoBy v_breachGroup v_lower v_papers v_sets v_upper) := hD
              refine lv_aload_n hx hb dX11_layRho_206 rfl (lv_at hl 2 rfl) ?_
              refine lv_dup hx hb dX11_layRho_207 rfl ?_
              refine va_get (D := D) (ci := 10) (v := .long v_rhoBy) (C := RX11) (T := TX11) (N := 17) hx hb hts iX11 hown hK hP 0 rfl rfl 15 (by decide) fl103 (fun _ h9 => h9) rfl dX11_layRho_208 ?_
              refine lv_iload hx hb dX11_layRho_211 (lv_at hl 1 rfl) ?_
              refine lv_if_eq (tgt := 232) hx hb dX11_layRho_213 (by decide) (fun c31 => ?_) (fun c31 => ?_)
              · exact absurd c31 (by decide)
              · refine lv_iload hx hb dX11_layRho_216 (lv_at hl 0 rfl) ?_
                refine lv_if_ne (tgt := 232) hx hb dX11_layRho_218 (by decide) (fun c32 => ?_) (fun c32 => ?_)
                · refine lv_lconst (v := 0) hx hb dX11_layRho_232 (by decide) ?_
                  refine lv_ladd hx hb dX11_layRho_233 ?_
                  refine va_put (D := D) (ci := 10) (v := .long (v_rhoBy + (0 : Int64))) (ty := .long) (C := RX11) (T := TX11) (N := 17) hx hb hts iX11 tyX11 tyX11_ok nmX11 hown hK hP hD hS 0 rfl rfl 15 (by decide) fl103 (fun _ h9 => h9) rfl (by decide +kernel) rfl rfl (Nat.le_of_ble_eq_true rfl) dX11_layRho_234 (fun H locs hP hD hS => ?_)
                  have hP : va_P D vwCl (wd_X11_layRho cyI cyJ cyZ a_this a_sets a_papers a_worths a_sign a_hallSign a_chosen a_upper a_lower v_heaps v_seats v_signs v_hallMany v_chosenSet v_paidSeats (v_rhoUp - (((v_papers y9.toNatClampNeg)).toInt64 * (v_upper (((7 : Int32) * y1) + y9).toNatClampNeg))) (v_rhoBy + (0 : Int64)) v_breachGroup v_lower v_papers v_sets v_upper) H := hP
                  have hD : va_D A (wd_X11_layRho cyI cyJ cyZ a_this a_sets a_papers a_worths a_sign a_hallSign a_chosen a_upper a_lower v_heaps v_seats v_signs v_hallMany v_chosenSet v_paidSeats (v_rhoUp - (((v_papers y9.toNatClampNeg)).toInt64 * (v_upper (((7 : Int32) * y1) + y9).toNatClampNeg))) (v_rhoBy + (0 : Int64)) v_breachGroup v_lower v_papers v_sets v_upper) := hD
                  refine lv_iinc (v := (y9 + (1 : Int32))) (lv' := [(9, .int (y9 + (1 : Int32))), (11, .int (1 : Int32)), (10, .int (1 : Int32)), (0, .ref a_this), (1, .int y1), (2, .int y2), (3, .long y3), (7, .int y7)]) hx hb dX11_layRho_237 hl (k := 7) rfl rfl (by decide) rfl (fun ls hl => ?_)
                  refine lv_goto (tgt := 113) hx hb dX11_layRho_240 (by decide) ?_
                  exact ih (y9 + (1 : Int32)) (v_rhoUp - (((v_papers y9.toNatClampNeg)).toInt64 * (v_upper (((7 : Int32) * y1) + y9).toNatClampNeg))) (v_rhoBy + (0 : Int64)) _ _ _ _ hf K hP hD hS (lv_sub hl [3, 4, 5, 6, 7, 0] rfl)
                · exact absurd c32 (by decide)
set_option maxHeartbeats 4000000 in
set_option maxRecDepth 100000 in
theorem wl_X11_layRho_249 {p : Program} {l : Launch} {e : Env} {s : State} {m : MethodId} {args : Array Value} {below : List Frame} {meth : Method} {c : Code} {A : Nat → Prop} {Q : State → Prop} {D : va_G} {cyI cyJ cyZ : ClassId} {a_this a_sets a_papers a_worths a_sign a_hallSign a_chosen a_upper a_lower : Nat} {y1 : Int32} {y2 : Int32} {y3 : Int64} {v_heaps : Int32} {v_seats : Int32} {v_signs : Int32} {v_hallMany : Int32} {v_chosenSet : Int32} {v_paidSeats : Int32} {v_rhoUp : Int64} {v_rhoBy : Int64} {v_breachGroup : Int32} {v_lower : Nat → Int64} {v_papers : Nat → Int32} {v_sets : Nat → Int32} {v_upper : Nat → Int64} (C : kC p s m args c cX11_layRho 12 RX11 wsX11_layRho D (kTy cyI cyJ cyZ) A) :
    ∀ (n : Nat) (y7 : Int32) (y8 : Int32) (y9 : Int32) (q : Int32 × Int32) (H : Heap) (locs : List Loc) (ls : Array Slot), lp_X11_layRho_249 y1 y2 y3 v_heaps v_rhoUp v_rhoBy v_sets v_upper n y7 y8 y9 = some q → (∀ (H : Heap) (locs : List Loc) (ls : Array Slot), va_P D vwCl (wd_X11_layRho cyI cyJ cyZ a_this a_sets a_papers a_worths a_sign a_hallSign a_chosen a_upper a_lower v_heaps v_seats v_signs v_hallMany v_chosenSet v_paidSeats v_rhoUp v_rhoBy v_breachGroup v_lower v_papers v_sets v_upper) H → va_D A (wd_X11_layRho cyI cyJ cyZ a_this a_sets a_papers a_worths a_sign a_hallSign a_chosen a_upper a_lower v_heaps v_seats v_signs v_hallMany v_chosenSet v_paidSeats v_rhoUp v_rhoBy v_breachGroup v_lower v_papers v_sets v_upper) → va_S A s.heap H locs → lv_has ls 12 [(0, .ref a_this), (1, .int y1), (2, .int y2), (3, .long y3), (7, .int q.1), (8, .int q.2)] → W p l e rm_X11_layRho s m args below meth c H locs 0 0 Q (F0 m 338 ls [])) → va_P D vwCl (wd_X11_layRho cyI cyJ cyZ a_this a_sets a_papers a_worths a_sign a_hallSign a_chosen a_upper a_lower v_heaps v_seats v_signs v_hallMany v_chosenSet v_paidSeats v_rhoUp v_rhoBy v_breachGroup v_lower v_papers v_sets v_upper) H → va_D A (wd_X11_layRho cyI cyJ cyZ a_this a_sets a_papers a_worths a_sign a_hallSign a_chosen a_upper a_lower v_heaps v_seats v_signs v_hallMany v_chosenSet v_paidSeats v_rhoUp v_rhoBy v_breachGroup v_lower v_papers v_sets v_upper) → va_S A s.heap H locs → lv_has ls 12 [(0, .ref a_this), (1, .int y1), (2, .int y2), (3, .long y3), (7, .int y7), (8, .int y8), (9, .int y9)] → W p l e rm_X11_layRho s m args below meth c H locs 0 0 Q (F0 m 249 ls []) := by
  obtain ⟨hx, hb, hml, hown, hts, hK, hA⟩ := id C
  have iX11 : ∀ w ∈ u_ws RX11 TX11 17, w ∈ wsX11_layRho := by decide +kernel
  have fl7 := hts (.fieldLink RX11 7 "FairSeatsModel" "sets" "[I") (by decide +kernel)
  have fl32 := hts (.fieldLink RX11 32 "FairSeatsModel" "upper" "[J") (by decide +kernel)
  have fl39 := hts (.fieldLink RX11 39 "FairSeatsModel" "heaps" "I") (by decide +kernel)
  have fl99 := hts (.fieldLink RX11 99 "FairSeatsModel" "rhoUp" "J") (by decide +kernel)
  have fl103 := hts (.fieldLink RX11 103 "FairSeatsModel" "rhoBy" "J") (by decide +kernel)
  intro n
  induction n with
  | zero =>
    intro y7 y8 y9 q H locs ls hf K hP hD hS hl
    rw [lp_X11_layRho_249] at hf
    cases hf
  | succ n ih =>
    intro y7 y8 y9 q H locs ls hf K hP hD hS hl
    rw [lp_X11_layRho_249] at hf
    refine lv_iload hx hb dX11_layRho_249 (lv_at hl 6 rfl) ?_
    refine lv_aload_n hx hb dX11_layRho_251 rfl (lv_at hl 0 rfl) ?_
    refine va_get (D := D) (ci := 10) (v := .int v_heaps) (C := RX11) (T := TX11) (N := 17) hx hb hts iX11 hown hK hP 0 rfl rfl 0 (by decide) fl39 (fun _ h9 => h9) rfl dX11_layRho_252 ?_
    refine lv_icmp_ge (tgt := 338) hx hb dX11_layRho_255 (by decide) (fun c34 => ?_) (fun c34 => ?_)
    · have hf := ob_pos c34 hf
      obtain rfl := Option.some.inj hf
      exact K _ _ _ hP hD hS (lv_sub hl [0, 1, 2, 3, 4, 5] rfl)
    · have hf := ob_neg c34 hf
      refine lv_aload_n hx hb dX11_layRho_258 rfl (lv_at hl 0 rfl) ?_
      refine va_get (D := D) (ci := 10) (v := .ref a_sets) (C := RX11) (T := TX11) (N := 17) hx hb hts iX11 hown hK hP 0 rfl rfl 1 (by decide) fl7 (fun _ h9 => h9) rfl dX11_layRho_259 ?_
      refine lv_iload hx hb dX11_layRho_262 (lv_at hl 6 rfl) ?_
      obtain ⟨h35, hf⟩ := og_in hf
      refine va_iald hx hb hK hP 3 0 rfl rfl h35 dX11_layRho_264 ?_
      refine lv_iload_n hx hb dX11_layRho_265 rfl (lv_at hl 2 rfl) ?_
      refine lv_ishr hx hb dX11_layRho_266 ?_
      refine lv_iconst (v := (1 : Int32)) hx hb dX11_layRho_267 (by decide) ?_
      refine lv_iand hx hb dX11_layRho_268 ?_
      refine lv_iconst (v := (1 : Int32)) hx hb dX11_layRho_269 (by decide) ?_
      refine lv_icmp_ne (tgt := 287) hx hb dX11_layRho_270 (by decide) (fun c36 => ?_) (fun c36 => ?_)
      · have hf := ob_neg c36 hf
        refine lv_iconst (v := (0 : Int32)) hx hb dX11_layRho_287 (by decide) ?_
        refine lv_istore (lv' := [(10, .int (0 : Int32)), (0, .ref a_this), (1, .int y1), (2, .int y2), (3, .long y3), (7, .int y7), (8, .int y8), (9, .int y9)]) hx hb dX11_layRho_288 hl (by decide) rfl (fun ls hl => ?_)
        refine lv_iload hx hb dX11_layRho_290 (lv_at hl 0 rfl) ?_
        refine lv_if_eq (tgt := 332) hx hb dX11_layRho_292 (by decide) (fun c37 => ?_) (fun c37 => ?_)
        · refine lv_iinc (v := (y9 + (1 : Int32))) (lv' := [(9, .int (y9 + (1 : Int32))), (10, .int (0 : Int32)), (0, .ref a_this), (1, .int y1), (2, .int y2), (3, .long y3), (7, .int y7), (8, .int y8)]) hx hb dX11_layRho_332 hl (k := 7) rfl rfl (by decide) rfl (fun ls hl => ?_)
          refine lv_goto (tgt := 249) hx hb dX11_layRho_335 (by decide) ?_
          exact ih y7 y8 (y9 + (1 : Int32)) _ _ _ _ hf K hP hD hS (lv_sub hl [2, 3, 4, 5, 6, 7, 0] rfl)
        · exact absurd c37 (by decide)
      · have hf := ob_pos c36 hf
        refine lv_iload hx hb dX11_layRho_273 (lv_at hl 4 rfl) ?_
        refine lv_iload hx hb dX11_layRho_275 (lv_at hl 6 rfl) ?_
        refine lv_ishr hx hb dX11_layRho_277 ?_
        refine lv_iconst (v := (1 : Int32)) hx hb dX11_layRho_278 (by decide) ?_
        refine lv_iand hx hb dX11_layRho_279 ?_
        refine lv_if_ne (tgt := 287) hx hb dX11_layRho_280 (by decide) (fun c38 => ?_) (fun c38 => ?_)
        · have hf := ob_neg c38 hf
          refine lv_iconst (v := (0 : Int32)) hx hb dX11_layRho_287 (by decide) ?_
          refine lv_istore (lv' := [(10, .int (0 : Int32)), (0, .ref a_this), (1, .int y1), (2, .int y2), (3, .long y3), (7, .int y7), (8, .int y8), (9, .int y9)]) hx hb dX11_layRho_288 hl (by decide) rfl (fun ls hl => ?_)
          refine lv_iload hx hb dX11_layRho_290 (lv_at hl 0 rfl) ?_
          refine lv_if_eq (tgt := 332) hx hb dX11_layRho_292 (by decide) (fun c39 => ?_) (fun c39 => ?_)
          · refine lv_iinc (v := (y9 + (1 : Int32))) (lv' := [(9, .int (y9 + (1 : Int32))), (10, .int (0 : Int32)), (0, .ref a_this), (1, .int y1), (2, .int y2), (3, .long y3), (7, .int y7), (8, .int y8)]) hx hb dX11_layRho_332 hl (k := 7) rfl rfl (by decide) rfl (fun ls hl => ?_)
            refine lv_goto (tgt := 249) hx hb dX11_layRho_335 (by decide) ?_
            exact ih y7 y8 (y9 + (1 : Int32)) _ _ _ _ hf K hP hD hS (lv_sub hl [2, 3, 4, 5, 6, 7, 0] rfl)
          · exact absurd c39 (by decide)
        · have hf := ob_pos c38 hf
          refine lv_iconst (v := (1 : Int32)) hx hb dX11_layRho_283 (by decide) ?_
          refine lv_goto (tgt := 288) hx hb dX11_layRho_284 (by decide) ?_
          refine lv_istore (lv' := [(10, .int (1 : Int32)), (0, .ref a_this), (1, .int y1), (2, .int y2), (3, .long y3), (7, .int y7), (8, .int y8), (9, .int y9)]) hx hb dX11_layRho_288 hl (by decide) rfl (fun ls hl => ?_)
          refine lv_iload hx hb dX11_layRho_290 (lv_at hl 0 rfl) ?_
          refine lv_if_eq (tgt := 332) hx hb dX11_layRho_292 (by decide) (fun c40 => ?_) (fun c40 => ?_)
          · exact absurd c40 (by decide)
          · refine lv_aload_n hx hb dX11_layRho_295 rfl (lv_at hl 1 rfl) ?_
            refine va_get (D := D) (ci := 10) (v := .ref a_upper) (C := RX11) (T := TX11) (N := 17) hx hb hts iX11 hown hK hP 0 rfl rfl 12 (by decide) fl32 (fun _ h9 => h9) rfl dX11_layRho_296 ?_
            refine lv_bipush (v := (7 : Int32)) hx hb dX11_layRho_299 (by decide) ?_
            refine lv_iload_n hx hb dX11_layRho_301 rfl (lv_at hl 2 rfl) ?_
            refine lv_imul hx hb dX11_layRho_302 ?_
            refine lv_iload hx hb dX11_layRho_303 (lv_at hl 7 rfl) ?_
            refine lv_iadd hx hb dX11_layRho_305 ?_
            obtain ⟨h41, hf⟩ := og_in hf
            refine va_lald hx hb hK hP 4 1 rfl rfl h41 dX11_layRho_306 ?_
            refine lv_aload_n hx hb dX11_layRho_307 rfl (lv_at hl 1 rfl) ?_
            refine va_get (D := D) (ci := 10) (v := .long v_rhoBy) (C := RX11) (T := TX11) (N := 17) hx hb hts iX11 hown hK hP 0 rfl rfl 15 (by decide) fl103 (fun _ h9 => h9) rfl dX11_layRho_308 ?_
            refine lv_lmul hx hb dX11_layRho_311 ?_
            refine lv_aload_n hx hb dX11_layRho_312 rfl (lv_at hl 1 rfl) ?_
            refine va_get (D := D) (ci := 10) (v := .long v_rhoUp) (C := RX11) (T := TX11) (N := 17) hx hb hts iX11 hown hK hP 0 rfl rfl 14 (by decide) fl99 (fun _ h9 => h9) rfl dX11_layRho_313 ?_
            refine W.lcmp hx hb dX11_layRho_316 ?_
            refine lv_if_ge (tgt := 332) hx hb dX11_layRho_317 (by decide) (fun c42 => ?_) (fun c42 => ?_)
            · have hf := ob_pos c42 hf
              refine lv_iinc (v := (y9 + (1 : Int32))) (lv' := [(9, .int (y9 + (1 : Int32))), (10, .int (1 : Int32)), (0, .ref a_this), (1, .int y1), (2, .int y2), (3, .long y3), (7, .int y7), (8, .int y8)]) hx hb dX11_layRho_332 hl (k := 7) rfl rfl (by decide) rfl (fun ls hl => ?_)
              refine lv_goto (tgt := 249) hx hb dX11_layRho_335 (by decide) ?_
              exact ih y7 y8 (y9 + (1 : Int32)) _ _ _ _ hf K hP hD hS (lv_sub hl [2, 3, 4, 5, 6, 7, 0] rfl)
            · have hf := ob_neg c42 hf
              refine lv_iload hx hb dX11_layRho_320 (lv_at hl 5 rfl) ?_
              refine lv_iconst (v := (1 : Int32)) hx hb dX11_layRho_322 (by decide) ?_
              refine lv_iload hx hb dX11_layRho_323 (lv_at hl 7 rfl) ?_
              refine lv_ishl hx hb dX11_layRho_325 ?_
              refine lv_ior hx hb dX11_layRho_326 ?_
              refine lv_istore (lv' := [(7, .int (y7 ||| ((1 : Int32) <<< (y9 &&& 31)))), (10, .int (1 : Int32)), (0, .ref a_this), (1, .int y1), (2, .int y2), (3, .long y3), (8, .int y8), (9, .int y9)]) hx hb dX11_layRho_327 hl (by decide) rfl (fun ls hl => ?_)
              refine lv_iconst (v := (1 : Int32)) hx hb dX11_layRho_329 (by decide) ?_
              refine lv_istore (lv' := [(8, .int (1 : Int32)), (7, .int (y7 ||| ((1 : Int32) <<< (y9 &&& 31)))), (10, .int (1 : Int32)), (0, .ref a_this), (1, .int y1), (2, .int y2), (3, .long y3), (9, .int y9)]) hx hb dX11_layRho_330 hl (by decide) rfl (fun ls hl => ?_)
              refine lv_iinc (v := (y9 + (1 : Int32))) (lv' := [(9, .int (y9 + (1 : Int32))), (8, .int (1 : Int32)), (7, .int (y7 ||| ((1 : Int32) <<< (y9 &&& 31)))), (10, .int (1 : Int32)), (0, .ref a_this), (1, .int y1), (2, .int y2), (3, .long y3)]) hx hb dX11_layRho_332 hl (k := 7) rfl rfl (by decide) rfl (fun ls hl => ?_)
              refine lv_goto (tgt := 249) hx hb dX11_layRho_335 (by decide) ?_
              exact ih (y7 ||| ((1 : Int32) <<< (y9 &&& 31))) (1 : Int32) (y9 + (1 : Int32)) _ _ _ _ hf K hP hD hS (lv_sub hl [4, 5, 6, 7, 2, 1, 0] rfl)
set_option maxHeartbeats 4000000 in
set_option maxRecDepth 100000 in
theorem wl_X11_layRho_95 {p : Program} {l : Launch} {e : Env} {s : State} {m : MethodId} {args : Array Value} {below : List Frame} {meth : Method} {c : Code} {A : Nat → Prop} {Q : State → Prop} {D : va_G} {cyI cyJ cyZ : ClassId} {a_this a_sets a_papers a_worths a_sign a_hallSign a_chosen a_upper a_lower : Nat} {y1 : Int32} {y2 : Int32} {y3 : Int64} {v_heaps : Int32} {v_seats : Int32} {v_signs : Int32} {v_hallMany : Int32} {v_chosenSet : Int32} {v_paidSeats : Int32} {v_breachGroup : Int32} {v_lower : Nat → Int64} {v_papers : Nat → Int32} {v_sets : Nat → Int32} {v_upper : Nat → Int64} (C : kC p s m args c cX11_layRho 12 RX11 wsX11_layRho D (kTy cyI cyJ cyZ) A) :
    ∀ (n : Nat) (y7 : Int32) (y8 : Int32) (v_rhoUp : Int64) (v_rhoBy : Int64) (q : Int64 × Int64) (H : Heap) (locs : List Loc) (ls : Array Slot), lp_X11_layRho_95 y1 y2 y3 v_heaps v_papers v_sets v_upper n y7 y8 v_rhoUp v_rhoBy = some q → (∀ (H : Heap) (locs : List Loc) (ls : Array Slot), va_P D vwCl (wd_X11_layRho cyI cyJ cyZ a_this a_sets a_papers a_worths a_sign a_hallSign a_chosen a_upper a_lower v_heaps v_seats v_signs v_hallMany v_chosenSet v_paidSeats q.1 q.2 v_breachGroup v_lower v_papers v_sets v_upper) H → va_D A (wd_X11_layRho cyI cyJ cyZ a_this a_sets a_papers a_worths a_sign a_hallSign a_chosen a_upper a_lower v_heaps v_seats v_signs v_hallMany v_chosenSet v_paidSeats q.1 q.2 v_breachGroup v_lower v_papers v_sets v_upper) → va_S A s.heap H locs → lv_has ls 12 [] → W p l e rm_X11_layRho s m args below meth c H locs 0 0 Q (F0 m 341 ls [])) → va_P D vwCl (wd_X11_layRho cyI cyJ cyZ a_this a_sets a_papers a_worths a_sign a_hallSign a_chosen a_upper a_lower v_heaps v_seats v_signs v_hallMany v_chosenSet v_paidSeats v_rhoUp v_rhoBy v_breachGroup v_lower v_papers v_sets v_upper) H → va_D A (wd_X11_layRho cyI cyJ cyZ a_this a_sets a_papers a_worths a_sign a_hallSign a_chosen a_upper a_lower v_heaps v_seats v_signs v_hallMany v_chosenSet v_paidSeats v_rhoUp v_rhoBy v_breachGroup v_lower v_papers v_sets v_upper) → va_S A s.heap H locs → lv_has ls 12 [(0, .ref a_this), (1, .int y1), (2, .int y2), (3, .long y3), (7, .int y7), (8, .int y8)] → W p l e rm_X11_layRho s m args below meth c H locs 0 0 Q (F0 m 95 ls []) := by
  obtain ⟨hx, hb, hml, hown, hts, hK, hA⟩ := id C
  have iX11 : ∀ w ∈ u_ws RX11 TX11 17, w ∈ wsX11_layRho := by decide +kernel
  have fl99 := hts (.fieldLink RX11 99 "FairSeatsModel" "rhoUp" "J") (by decide +kernel)
  have fl103 := hts (.fieldLink RX11 103 "FairSeatsModel" "rhoBy" "J") (by decide +kernel)
  intro n
  induction n with
  | zero =>
    intro y7 y8 v_rhoUp v_rhoBy q H locs ls hf K hP hD hS hl
    rw [lp_X11_layRho_95] at hf
    cases hf
  | succ n ih =>
    intro y7 y8 v_rhoUp v_rhoBy q H locs ls hf K hP hD hS hl
    rw [lp_X11_layRho_95] at hf
    refine lv_iload hx hb dX11_layRho_95 (lv_at hl 5 rfl) ?_
    refine lv_if_eq (tgt := 341) hx hb dX11_layRho_97 (by decide) (fun c12 => ?_) (fun c12 => ?_)
    · have hf := ob_pos c12 hf
      obtain rfl := Option.some.inj hf
      exact K _ _ _ hP hD hS (lv_sub hl [] rfl)
    · have hf := ob_neg c12 hf
      refine lv_aload_n hx hb dX11_layRho_100 rfl (lv_at hl 0 rfl) ?_
      refine lv_lload_n hx hb dX11_layRho_101 rfl (lv_at hl 3 rfl) ?_
      refine va_put (D := D) (ci := 10) (v := .long y3) (ty := .long) (C := RX11) (T := TX11) (N := 17) hx hb hts iX11 tyX11 tyX11_ok nmX11 hown hK hP hD hS 0 rfl rfl 14 (by decide) fl99 (fun _ h9 => h9) rfl (by decide +kernel) rfl rfl (Nat.le_of_ble_eq_true rfl) dX11_layRho_102 (fun H locs hP hD hS => ?_)
      have hP : va_P D vwCl (wd_X11_layRho cyI cyJ cyZ a_this a_sets a_papers a_worths a_sign a_hallSign a_chosen a_upper a_lower v_heaps v_seats v_signs v_hallMany v_chosenSet v_paidSeats y3 v_rhoBy v_breachGroup v_lower v_papers v_sets v_upper) H := hP
      have hD : va_D A (wd_X11_layRho cyI cyJ cyZ a_this a_sets a_papers a_worths a_sign a_hallSign a_chosen a_upper a_lower v_heaps v_seats v_signs v_hallMany v_chosenSet v_paidSeats y3 v_rhoBy v_breachGroup v_lower v_papers v_sets v_upper) := hD
      refine lv_aload_n hx hb dX11_layRho_105 rfl (lv_at hl 0 rfl) ?_
      refine lv_lconst (v := 0) hx hb dX11_layRho_106 (by decide) ?_
      refine va_put (D := D) (ci := 10) (v := .long (0 : Int64)) (ty := .long) (C := RX11) (T := TX11) (N := 17) hx hb hts iX11 tyX11 tyX11_ok nmX11 hown hK hP hD hS 0 rfl rfl 15 (by decide) fl103 (fun _ h9 => h9) rfl (by decide +kernel) rfl rfl (Nat.le_of_ble_eq_true rfl) dX11_layRho_107 (fun H locs hP hD hS => ?_)
      have hP : va_P D vwCl (wd_X11_layRho cyI cyJ cyZ a_this a_sets a_papers a_worths a_sign a_hallSign a_chosen a_upper a_lower v_heaps v_seats v_signs v_hallMany v_chosenSet v_paidSeats y3 (0 : Int64) v_breachGroup v_lower v_papers v_sets v_upper) H := hP
      have hD : va_D A (wd_X11_layRho cyI cyJ cyZ a_this a_sets a_papers a_worths a_sign a_hallSign a_chosen a_upper a_lower v_heaps v_seats v_signs v_hallMany v_chosenSet v_paidSeats y3 (0 : Int64) v_breachGroup v_lower v_papers v_sets v_upper) := hD
      refine lv_iconst (v := (0 : Int32)) hx hb dX11_layRho_110 (by decide) ?_
      refine lv_istore (lv' := [(9, .int (0 : Int32)), (0, .ref a_this), (1, .int y1), (2, .int y2), (3, .long y3), (7, .int y7), (8, .int y8)]) hx hb dX11_layRho_111 hl (by decide) rfl (fun ls hl => ?_)
      obtain ⟨q33, hq33, hf⟩ := ob_bind hf
      refine wl_X11_layRho_113 C FU (0 : Int32) y3 (0 : Int64) _ _ _ _ hq33 (fun H locs ls hP hD hS hl => ?_) hP hD hS (lv_sub hl [1, 2, 3, 4, 5, 0] rfl)
      refine lv_iconst (v := (0 : Int32)) hx hb dX11_layRho_243 (by decide) ?_
      refine lv_istore (lv' := [(8, .int (0 : Int32)), (0, .ref a_this), (1, .int y1), (2, .int y2), (3, .long y3), (7, .int y7)]) hx hb dX11_layRho_244 hl (by decide) rfl (fun ls hl => ?_)
      refine lv_iconst (v := (0 : Int32)) hx hb dX11_layRho_246 (by decide) ?_
      refine lv_istore (lv' := [(9, .int (0 : Int32)), (8, .int (0 : Int32)), (0, .ref a_this), (1, .int y1), (2, .int y2), (3, .long y3), (7, .int y7)]) hx hb dX11_layRho_247 hl (by decide) rfl (fun ls hl => ?_)
      obtain ⟨q43, hq43, hf⟩ := ob_bind hf
      refine wl_X11_layRho_249 C FU y7 (0 : Int32) (0 : Int32) _ _ _ _ hq43 (fun H locs ls hP hD hS hl => ?_) hP hD hS (lv_sub hl [2, 3, 4, 5, 6, 1, 0] rfl)
      refine lv_goto (tgt := 95) hx hb dX11_layRho_338 (by decide) ?_
      exact ih q43.1 q43.2 q33.1 q33.2 _ _ _ _ hf K hP hD hS (lv_sub hl [0, 1, 2, 3, 4, 5] rfl)
set_option maxHeartbeats 4000000 in
set_option maxRecDepth 100000 in
theorem c_X11_layRho (l : Launch) (D : va_G) (cyI cyJ cyZ : ClassId) (a_this a_sets a_papers a_worths a_sign a_hallSign a_chosen a_upper a_lower : Nat) (v_heaps : Int32) (v_seats : Int32) (v_signs : Int32) (v_hallMany : Int32) (v_chosenSet : Int32) (v_paidSeats : Int32) (v_rhoUp : Int64) (v_rhoBy : Int64) (v_breachGroup : Int32) (v_lower : Nat → Int64) (v_papers : Nat → Int32) (v_sets : Nat → Int32) (v_upper : Nat → Int64) (x1 : Int32) (x2 : Int32) (q : Int32 × Int64 × Int64) (hf : f_X11_layRho x1 x2 v_heaps v_rhoUp v_rhoBy v_lower v_papers v_sets v_upper = some q) : kMz l yX11_layRho wsX11_layRho rm_X11_layRho D (kTy cyI cyJ cyZ) [.ref a_this, .int x1, .int x2] (wd_X11_layRho cyI cyJ cyZ a_this a_sets a_papers a_worths a_sign a_hallSign a_chosen a_upper a_lower v_heaps v_seats v_signs v_hallMany v_chosenSet v_paidSeats v_rhoUp v_rhoBy v_breachGroup v_lower v_papers v_sets v_upper) (wd_X11_layRho cyI cyJ cyZ a_this a_sets a_papers a_worths a_sign a_hallSign a_chosen a_upper a_lower v_heaps v_seats v_signs v_hallMany v_chosenSet v_paidSeats q.2.1 q.2.2 v_breachGroup v_lower v_papers v_sets v_upper) q.1 := by
  refine kMz_of (cc := cX11_layRho) (nL := 12) (own := RX11) (by decide) rfl rfl (Nat.le_of_ble_eq_true rfl) ?_
  intro p e s m below meth c A Q ls C hret hP hD hS hl
  have hl : lv_has ls 12 [(0, .ref a_this), (1, .int x1), (2, .int x2)] := hl
  unfold f_X11_layRho at hf
  obtain ⟨hx, hb, hml, hown, hts, hK, hA⟩ := id C
  have iX11 : ∀ w ∈ u_ws RX11 TX11 17, w ∈ wsX11_layRho := by decide +kernel
  have fl36 := hts (.fieldLink RX11 36 "FairSeatsModel" "lower" "[J") (by decide +kernel)
  have cw82 := cwV (R := rm_X11_layRho) (rm := rm_X11_papersOf) 1 hts gX11_layRho_X11_papersOf rfl rfl rfl (by decide +kernel) ⟨Nat.le_of_ble_eq_true rfl, Nat.le_of_ble_eq_true rfl⟩
  have cw96 := cwV (R := rm_X11_layRho) (rm := rm_X11_allPapers) 0 hts gX11_layRho_X11_allPapers rfl rfl rfl (by decide +kernel) ⟨Nat.le_of_ble_eq_true rfl, Nat.le_of_ble_eq_true rfl⟩
  refine lv_aload_n hx hb dX11_layRho_0 rfl (lv_at hl 0 rfl) ?_
  obtain ⟨q1, hq1, hf⟩ := ob_bind hf
  refine k_Vi (wo := (wd_X11_layRho cyI cyJ cyZ a_this a_sets a_papers a_worths a_sign a_hallSign a_chosen a_upper a_lower v_heaps v_seats v_signs v_hallMany v_chosenSet v_paidSeats v_rhoUp v_rhoBy v_breachGroup v_lower v_papers v_sets v_upper)) (As := []) (rest := []) C (c_X11_allPapers l D cyI cyJ cyZ a_this a_sets a_papers a_worths a_sign a_hallSign a_chosen a_upper a_lower v_heaps v_seats v_signs v_hallMany v_chosenSet v_paidSeats v_rhoUp v_rhoBy v_breachGroup v_papers  q1 hq1) cw96 hP hD hS [0, 2] [1, 3, 4] [3, 0, 4, 1, 2] rfl rfl rfl (by decide) 0 (ci := 10) rfl rfl rfl rfl rfl hl.1 (Nat.le_of_ble_eq_true rfl) dX11_layRho_1 ⟨Nat.zero_le _, Nat.zero_le _⟩ (fun H locs hP hD hS => ?_)
  refine lv_i2l (v := (q1).toInt64) hx hb dX11_layRho_4 rfl ?_
  refine lv_aload_n hx hb dX11_layRho_5 rfl (lv_at hl 0 rfl) ?_
  refine va_get (D := D) (ci := 10) (v := .ref a_lower) (C := RX11) (T := TX11) (N := 17) hx hb hts iX11 hown hK hP 0 rfl rfl 13 (by decide) fl36 (fun _ h9 => h9) rfl dX11_layRho_6 ?_
  refine lv_iload_n hx hb dX11_layRho_9 rfl (lv_at hl 1 rfl) ?_
  obtain ⟨h2, hf⟩ := og_in hf
  refine va_lald hx hb hK hP 1 1 rfl rfl h2 dX11_layRho_10 ?_
  refine lv_lmul hx hb dX11_layRho_11 ?_
  refine lv_lstore_n (lv' := [(3, .long ((q1).toInt64 * (v_lower x1.toNatClampNeg))), (0, .ref a_this), (1, .int x1), (2, .int x2)]) hx hb dX11_layRho_12 rfl hl (by decide) rfl (fun ls hl => ?_)
  refine lv_lconst (v := 0) hx hb dX11_layRho_13 (by decide) ?_
  refine lv_lstore (lv' := [(5, .long (0 : Int64)), (3, .long ((q1).toInt64 * (v_lower x1.toNatClampNeg))), (0, .ref a_this), (1, .int x1), (2, .int x2)]) hx hb dX11_layRho_14 hl (by decide) rfl (fun ls hl => ?_)
  refine lv_iconst (v := (0 : Int32)) hx hb dX11_layRho_16 (by decide) ?_
  refine lv_istore (lv' := [(7, .int (0 : Int32)), (5, .long (0 : Int64)), (3, .long ((q1).toInt64 * (v_lower x1.toNatClampNeg))), (0, .ref a_this), (1, .int x1), (2, .int x2)]) hx hb dX11_layRho_17 hl (by decide) rfl (fun ls hl => ?_)
  obtain ⟨q8, hq8, hf⟩ := ob_bind hf
  refine wl_X11_layRho_19 C FU (0 : Int64) (0 : Int32) _ _ _ _ hq8 (fun H locs ls hP hD hS hl => ?_) hP hD hS (lv_sub hl [3, 4, 5, 2, 1, 0] rfl)
  refine lv_aload_n hx hb dX11_layRho_72 rfl (lv_at hl 0 rfl) ?_
  refine lv_iload_n hx hb dX11_layRho_73 rfl (lv_at hl 2 rfl) ?_
  obtain ⟨q9, hq9, hf⟩ := ob_bind hf
  refine k_Vi (wo := (wd_X11_layRho cyI cyJ cyZ a_this a_sets a_papers a_worths a_sign a_hallSign a_chosen a_upper a_lower v_heaps v_seats v_signs v_hallMany v_chosenSet v_paidSeats v_rhoUp v_rhoBy v_breachGroup v_lower v_papers v_sets v_upper)) (As := [.int x2]) (rest := []) C (c_X11_papersOf l D cyI cyJ cyZ a_this a_sets a_papers a_worths a_sign a_hallSign a_chosen a_upper a_lower v_heaps v_seats v_signs v_hallMany v_chosenSet v_paidSeats v_rhoUp v_rhoBy v_breachGroup v_papers v_sets x2 q9 hq9) cw82 hP hD hS [0, 2, 3] [1, 4] [2, 0, 3, 4, 1] rfl rfl rfl (by decide) 0 (ci := 10) rfl rfl rfl rfl rfl hl.1 (Nat.le_of_ble_eq_true rfl) dX11_layRho_74 ⟨Nat.zero_le _, Nat.zero_le _⟩ (fun H locs hP hD hS => ?_)
  refine lv_if_eq (tgt := 87) hx hb dX11_layRho_77 (by decide) (fun c10 => ?_) (fun c10 => ?_)
  · have hf := ob_pos c10 hf
    refine lv_iconst (v := (0 : Int32)) hx hb dX11_layRho_87 (by decide) ?_
    obtain rfl := Option.some.inj hf
    exact hret _ _ _ _ narrow_b0 dX11_layRho_88 hP hD hS
  · have hf := ob_neg c10 hf
    refine lv_lload hx hb dX11_layRho_80 (lv_at hl 4 rfl) ?_
    refine lv_lload_n hx hb dX11_layRho_82 rfl (lv_at hl 3 rfl) ?_
    refine W.lcmp hx hb dX11_layRho_83 ?_
    refine lv_if_ge (tgt := 89) hx hb dX11_layRho_84 (by decide) (fun c11 => ?_) (fun c11 => ?_)
    · have hf := ob_pos c11 hf
      refine lv_iconst (v := (0 : Int32)) hx hb dX11_layRho_89 (by decide) ?_
      refine lv_istore (lv' := [(7, .int (0 : Int32)), (0, .ref a_this), (1, .int x1), (2, .int x2), (3, .long ((q1).toInt64 * (v_lower x1.toNatClampNeg))), (5, .long q8)]) hx hb dX11_layRho_90 hl (by decide) rfl (fun ls hl => ?_)
      refine lv_iconst (v := (1 : Int32)) hx hb dX11_layRho_92 (by decide) ?_
      refine lv_istore (lv' := [(8, .int (1 : Int32)), (7, .int (0 : Int32)), (0, .ref a_this), (1, .int x1), (2, .int x2), (3, .long ((q1).toInt64 * (v_lower x1.toNatClampNeg))), (5, .long q8)]) hx hb dX11_layRho_93 hl (by decide) rfl (fun ls hl => ?_)
      obtain ⟨q44, hq44, hf⟩ := ob_bind hf
      refine wl_X11_layRho_95 C FU (0 : Int32) (1 : Int32) v_rhoUp v_rhoBy _ _ _ _ hq44 (fun H locs ls hP hD hS hl => ?_) hP hD hS (lv_sub hl [2, 3, 4, 5, 1, 0] rfl)
      refine lv_iconst (v := (1 : Int32)) hx hb dX11_layRho_341 (by decide) ?_
      obtain rfl := Option.some.inj hf
      exact hret _ _ _ _ narrow_b1 dX11_layRho_342 hP hD hS
    · have hf := ob_neg c11 hf
      refine lv_iconst (v := (0 : Int32)) hx hb dX11_layRho_87 (by decide) ?_
      obtain rfl := Option.some.inj hf
      exact hret _ _ _ _ narrow_b0 dX11_layRho_88 hP hD hS
abbrev rm_X11_share : Room := { frames := 2, cells := 0, slots := 0, locals := 54 }
abbrev wd_X11_share (cyI cyJ cyZ : ClassId) (a_this a_sets a_papers a_worths a_sign a_hallSign a_chosen a_upper a_lower : Nat) (v_heaps : Int32) (v_seats : Int32) (v_signs : Int32) (v_hallMany : Int32) (v_chosenSet : Int32) (v_paidSeats : Int32) (v_rhoUp : Int64) (v_rhoBy : Int64) (v_breachGroup : Int32) (v_chosen : Nat → Int32) (v_lower : Nat → Int64) (v_papers : Nat → Int32) (v_sets : Nat → Int32) (v_upper : Nat → Int64) : va_W := [(a_this, .inr (10, [.int v_heaps, .ref a_sets, .ref a_papers, .int v_seats, .ref a_worths, .int v_signs, .ref a_sign, .int v_hallMany, .ref a_hallSign, .ref a_chosen, .int v_chosenSet, .int v_paidSeats, .ref a_upper, .ref a_lower, .long v_rhoUp, .long v_rhoBy, .int v_breachGroup])), (a_chosen, .inl (cyI, 8, .inl v_chosen)), (a_lower, .inl (cyJ, 5, .inr (.inl v_lower))), (a_papers, .inl (cyI, 7, .inl v_papers)), (a_sets, .inl (cyI, 7, .inl v_sets)), (a_upper, .inl (cyJ, 35, .inr (.inl v_upper)))]
def lp_X11_share_11 (y1 : Int32) (v_heaps : Int32) (v_chosenSet : Int32) (v_lower : Nat → Int64) (v_papers : Nat → Int32) (v_sets : Nat → Int32) (v_upper : Nat → Int64) : Nat → Int32 → Int64 → Int64 → Int32 → Int64 → Int64 → Option (Int32 × Int64 × Int64 × Int64 × Int64)
  | 0, _, _, _, _, _, _ => none
  | n + 1, y2, y3, y5, y7, v_rhoUp, v_rhoBy => (if (8 : Int32) ≤ y7 then some (y2, y3, y5, v_rhoUp, v_rhoBy) else (f_X11_isLeft y7 v_chosenSet).bind (fun q2 => (if q2 = 0 then lp_X11_share_11 y1 v_heaps v_chosenSet v_lower v_papers v_sets v_upper n y2 y3 y5 (y7 + (1 : Int32)) v_rhoUp v_rhoBy else (f_X11_layRho y1 y7 v_heaps v_rhoUp v_rhoBy v_lower v_papers v_sets v_upper).bind (fun q4 => (if q4.1 = 0 then lp_X11_share_11 y1 v_heaps v_chosenSet v_lower v_papers v_sets v_upper n y2 y3 y5 (y7 + (1 : Int32)) q4.2.1 q4.2.2 else (if y2 < 0 then lp_X11_share_11 y1 v_heaps v_chosenSet v_lower v_papers v_sets v_upper n y7 q4.2.1 q4.2.2 (y7 + (1 : Int32)) q4.2.1 q4.2.2 else (if 0 ≤ (lg_cmp (q4.2.1 * y5) (y3 * q4.2.2)) then lp_X11_share_11 y1 v_heaps v_chosenSet v_lower v_papers v_sets v_upper n y2 y3 y5 (y7 + (1 : Int32)) q4.2.1 q4.2.2 else lp_X11_share_11 y1 v_heaps v_chosenSet v_lower v_papers v_sets v_upper n y7 q4.2.1 q4.2.2 (y7 + (1 : Int32)) q4.2.1 q4.2.2)))))))
def lp_X11_share_88 (y1 : Int32) (y2 : Int32) (y3 : Int64) (v_heaps : Int32) (v_sets : Nat → Int32) : Nat → Int32 → (Nat → Int64) → Option ((Nat → Int64))
  | 0, _, _ => none
  | n + 1, y7, v_upper => (if v_heaps ≤ y7 then some v_upper else (if y2 < 0 then some v_upper else (if ob_in y7 7 = true then (if (((v_sets y7.toNatClampNeg) >>> (y2 &&& 31)) &&& (1 : Int32)) = (1 : Int32) then (if ob_in (((7 : Int32) * (y1 + (1 : Int32))) + y7) 35 = true then (if 0 ≤ (lg_cmp ((v_upper (((7 : Int32) * (y1 + (1 : Int32))) + y7).toNatClampNeg) - y3) (0 : Int64)) then (if ob_in (((7 : Int32) * (y1 + (1 : Int32))) + y7) 35 = true then lp_X11_share_88 y1 y2 y3 v_heaps v_sets n (y7 + (1 : Int32)) (vp_updL v_upper (((7 : Int32) * (y1 + (1 : Int32))) + y7).toNatClampNeg ((v_upper (((7 : Int32) * (y1 + (1 : Int32))) + y7).toNatClampNeg) - y3)) else none) else (if ob_in (((7 : Int32) * (y1 + (1 : Int32))) + y7) 35 = true then lp_X11_share_88 y1 y2 y3 v_heaps v_sets n (y7 + (1 : Int32)) (vp_updL v_upper (((7 : Int32) * (y1 + (1 : Int32))) + y7).toNatClampNeg (0 : Int64)) else none)) else none) else lp_X11_share_88 y1 y2 y3 v_heaps v_sets n (y7 + (1 : Int32)) v_upper) else none)))
def f_X11_share (x1 : Int32) (v_heaps : Int32) (v_chosenSet : Int32) (v_paidSeats : Int32) (v_rhoUp : Int64) (v_rhoBy : Int64) (v_chosen : Nat → Int32) (v_lower : Nat → Int64) (v_papers : Nat → Int32) (v_sets : Nat → Int32) (v_upper : Nat → Int64) : Option (Int32 × Int32 × Int64 × Int64 × (Nat → Int32) × (Nat → Int64) × (Nat → Int64)) := (lp_X11_share_11 x1 v_heaps v_chosenSet v_lower v_papers v_sets v_upper FU (-6 : Int32) (0 : Int64) (1 : Int64) (0 : Int32) v_rhoUp v_rhoBy).bind (fun q8 => (f_X11_carry x1 q8.2.2.1 v_lower v_upper).bind (fun q9 => (lp_X11_share_88 x1 q8.1 q8.2.1 v_heaps v_sets FU (0 : Int32) q9.2).bind (fun q18 => (if 0 ≤ q8.1 then (if 0 ≤ q8.1 then (f_X11_pick x1 q8.1 v_chosenSet v_chosen).bind (fun q21 => some (q21.1, (v_paidSeats + (1 : Int32)), q8.2.2.2.1, q8.2.2.2.2, q21.2, q9.1, q18)) else (f_X11_mostOf v_heaps v_chosenSet v_papers v_sets).bind (fun q22 => (f_X11_pick x1 q22 v_chosenSet v_chosen).bind (fun q23 => some (q23.1, (v_paidSeats + (1 : Int32)), q8.2.2.2.1, q8.2.2.2.2, q23.2, q9.1, q18)))) else (if 0 ≤ q8.1 then (f_X11_pick x1 q8.1 v_chosenSet v_chosen).bind (fun q25 => some (q25.1, (v_paidSeats + (0 : Int32)), q8.2.2.2.1, q8.2.2.2.2, q25.2, q9.1, q18)) else (f_X11_mostOf v_heaps v_chosenSet v_papers v_sets).bind (fun q26 => (f_X11_pick x1 q26 v_chosenSet v_chosen).bind (fun q27 => some (q27.1, (v_paidSeats + (0 : Int32)), q8.2.2.2.1, q8.2.2.2.2, q27.2, q9.1, q18))))))))
set_option maxHeartbeats 4000000 in
set_option maxRecDepth 100000 in
theorem wl_X11_share_11 {p : Program} {l : Launch} {e : Env} {s : State} {m : MethodId} {args : Array Value} {below : List Frame} {meth : Method} {c : Code} {A : Nat → Prop} {Q : State → Prop} {D : va_G} {cyI cyJ cyZ : ClassId} {a_this a_sets a_papers a_worths a_sign a_hallSign a_chosen a_upper a_lower : Nat} {y1 : Int32} {v_heaps : Int32} {v_seats : Int32} {v_signs : Int32} {v_hallMany : Int32} {v_chosenSet : Int32} {v_paidSeats : Int32} {v_breachGroup : Int32} {v_chosen : Nat → Int32} {v_lower : Nat → Int64} {v_papers : Nat → Int32} {v_sets : Nat → Int32} {v_upper : Nat → Int64} (C : kC p s m args c cX11_share 10 RX11 wsX11_share D (kTy cyI cyJ cyZ) A) :
    ∀ (n : Nat) (y2 : Int32) (y3 : Int64) (y5 : Int64) (y7 : Int32) (v_rhoUp : Int64) (v_rhoBy : Int64) (q : Int32 × Int64 × Int64 × Int64 × Int64) (H : Heap) (locs : List Loc) (ls : Array Slot), lp_X11_share_11 y1 v_heaps v_chosenSet v_lower v_papers v_sets v_upper n y2 y3 y5 y7 v_rhoUp v_rhoBy = some q → (∀ (H : Heap) (locs : List Loc) (ls : Array Slot), va_P D vwCl (wd_X11_share cyI cyJ cyZ a_this a_sets a_papers a_worths a_sign a_hallSign a_chosen a_upper a_lower v_heaps v_seats v_signs v_hallMany v_chosenSet v_paidSeats q.2.2.2.1 q.2.2.2.2 v_breachGroup v_chosen v_lower v_papers v_sets v_upper) H → va_D A (wd_X11_share cyI cyJ cyZ a_this a_sets a_papers a_worths a_sign a_hallSign a_chosen a_upper a_lower v_heaps v_seats v_signs v_hallMany v_chosenSet v_paidSeats q.2.2.2.1 q.2.2.2.2 v_breachGroup v_chosen v_lower v_papers v_sets v_upper) → va_S A s.heap H locs → lv_has ls 10 [(0, .ref a_this), (1, .int y1), (2, .int q.1), (3, .long q.2.1), (5, .long q.2.2.1)] → W p l e rm_X11_share s m args below meth c H locs 0 0 Q (F0 m 78 ls [])) → va_P D vwCl (wd_X11_share cyI cyJ cyZ a_this a_sets a_papers a_worths a_sign a_hallSign a_chosen a_upper a_lower v_heaps v_seats v_signs v_hallMany v_chosenSet v_paidSeats v_rhoUp v_rhoBy v_breachGroup v_chosen v_lower v_papers v_sets v_upper) H → va_D A (wd_X11_share cyI cyJ cyZ a_this a_sets a_papers a_worths a_sign a_hallSign a_chosen a_upper a_lower v_heaps v_seats v_signs v_hallMany v_chosenSet v_paidSeats v_rhoUp v_rhoBy v_breachGroup v_chosen v_lower v_papers v_sets v_upper) → va_S A s.heap H locs → lv_has ls 10 [(0, .ref a_this), (1, .int y1), (2, .int y2), (3, .long y3), (5, .long y5), (7, .int y7)] → W p l e rm_X11_share s m args below meth c H locs 0 0 Q (F0 m 11 ls []) := by
  obtain ⟨hx, hb, hml, hown, hts, hK, hA⟩ := id C
  have iX11 : ∀ w ∈ u_ws RX11 TX11 17, w ∈ wsX11_share := by decide +kernel
  have fl99 := hts (.fieldLink RX11 99 "FairSeatsModel" "rhoUp" "J") (by decide +kernel)
  have fl103 := hts (.fieldLink RX11 103 "FairSeatsModel" "rhoBy" "J") (by decide +kernel)
  have cw79 := cwV (R := rm_X11_share) (rm := rm_X11_isLeft) 1 hts gX11_share_X11_isLeft rfl rfl rfl (by decide +kernel) ⟨Nat.le_of_ble_eq_true rfl, Nat.le_of_ble_eq_true rfl⟩
  have cw106 := cwV (R := rm_X11_share) (rm := rm_X11_layRho) 2 hts gX11_share_X11_layRho rfl rfl rfl (by decide +kernel) ⟨Nat.le_of_ble_eq_true rfl, Nat.le_of_ble_eq_true rfl⟩
  intro n
  induction n with
  | zero =>
    intro y2 y3 y5 y7 v_rhoUp v_rhoBy q H locs ls hf K hP hD hS hl
    rw [lp_X11_share_11] at hf
    cases hf
  | succ n ih =>
    intro y2 y3 y5 y7 v_rhoUp v_rhoBy q H locs ls hf K hP hD hS hl
    rw [lp_X11_share_11] at hf
    refine lv_iload hx hb dX11_share_11 (lv_at hl 5 rfl) ?_
    refine lv_bipush (v := (8 : Int32)) hx hb dX11_share_13 (by decide) ?_
    refine lv_icmp_ge (tgt := 78) hx hb dX11_share_15 (by decide) (fun c1 => ?_) (fun c1 => ?_)
    · have hf := ob_pos c1 hf
      obtain rfl := Option.some.inj hf
      exact K _ _ _ hP hD hS (lv_sub hl [0, 1, 2, 3, 4] rfl)
    · have hf := ob_neg c1 hf
      refine lv_aload_n hx hb dX11_share_18 rfl (lv_at hl 0 rfl) ?_
      refine lv_iload hx hb dX11_share_19 (lv_at hl 5 rfl) ?_
      obtain ⟨q2, hq2, hf⟩ := ob_bind hf
      refine k_Vz (wo := (wd_X11_share cyI cyJ cyZ a_this a_sets a_papers a_worths a_sign a_hallSign a_chosen a_upper a_lower v_heaps v_seats v_signs v_hallMany v_chosenSet v_paidSeats v_rhoUp v_rhoBy v_breachGroup v_chosen v_lower v_papers v_sets v_upper)) (As := [.int y7]) (rest := []) C (c_X11_isLeft l D cyI cyJ cyZ a_this a_sets a_papers a_worths a_sign a_hallSign a_chosen a_upper a_lower v_heaps v_seats v_signs v_hallMany v_chosenSet v_paidSeats v_rhoUp v_rhoBy v_breachGroup y7 q2 hq2) cw79 hP hD hS [0] [1, 2, 3, 4, 5] [5, 0, 1, 2, 3, 4] rfl rfl rfl (by decide) 0 (ci := 10) rfl rfl rfl rfl rfl hl.1 (Nat.le_of_ble_eq_true rfl) dX11_share_21 ⟨Nat.zero_le _, Nat.zero_le _⟩ (fun H locs zq2 hP hD hS => ?_)
      refine lv_if_eq (tgt := 72) hx hb dX11_share_24 (by decide) (fun c3 => ?_) (fun c3 => ?_)
      · have hf := ob_pos c3 hf
        refine lv_iinc (v := (y7 + (1 : Int32))) (lv' := [(7, .int (y7 + (1 : Int32))), (0, .ref a_this), (1, .int y1), (2, .int y2), (3, .long y3), (5, .long y5)]) hx hb dX11_share_72 hl (k := 5) rfl rfl (by decide) rfl (fun ls hl => ?_)
        refine lv_goto (tgt := 11) hx hb dX11_share_75 (by decide) ?_
        exact ih y2 y3 y5 (y7 + (1 : Int32)) v_rhoUp v_rhoBy _ _ _ _ hf K hP hD hS (lv_sub hl [1, 2, 3, 4, 5, 0] rfl)
      · have hf := ob_neg c3 hf
        refine lv_aload_n hx hb dX11_share_27 rfl (lv_at hl 0 rfl) ?_
        refine lv_iload_n hx hb dX11_share_28 rfl (lv_at hl 1 rfl) ?_
        refine lv_iload hx hb dX11_share_29 (lv_at hl 5 rfl) ?_
        obtain ⟨q4, hq4, hf⟩ := ob_bind hf
        refine k_Vz (wo := (wd_X11_share cyI cyJ cyZ a_this a_sets a_papers a_worths a_sign a_hallSign a_chosen a_upper a_lower v_heaps v_seats v_signs v_hallMany v_chosenSet v_paidSeats q4.2.1 q4.2.2 v_breachGroup v_chosen v_lower v_papers v_sets v_upper)) (As := [.int y1, .int y7]) (rest := []) C (c_X11_layRho l D cyI cyJ cyZ a_this a_sets a_papers a_worths a_sign a_hallSign a_chosen a_upper a_lower v_heaps v_seats v_signs v_hallMany v_chosenSet v_paidSeats v_rhoUp v_rhoBy v_breachGroup v_lower v_papers v_sets v_upper y1 y7 q4 hq4) cw106 hP hD hS [0, 2, 3, 4, 5] [1] [1, 0, 2, 3, 4, 5] rfl rfl rfl (by decide) 0 (ci := 10) rfl rfl rfl rfl rfl hl.1 (Nat.le_of_ble_eq_true rfl) dX11_share_31 ⟨Nat.zero_le _, Nat.zero_le _⟩ (fun H locs zq4 hP hD hS => ?_)
        refine lv_if_eq (tgt := 72) hx hb dX11_share_34 (by decide) (fun c5 => ?_) (fun c5 => ?_)
        · have hf := ob_pos c5 hf
          refine lv_iinc (v := (y7 + (1 : Int32))) (lv' := [(7, .int (y7 + (1 : Int32))), (0, .ref a_this), (1, .int y1), (2, .int y2), (3, .long y3), (5, .long y5)]) hx hb dX11_share_72 hl (k := 5) rfl rfl (by decide) rfl (fun ls hl => ?_)
          refine lv_goto (tgt := 11) hx hb dX11_share_75 (by decide) ?_
          exact ih y2 y3 y5 (y7 + (1 : Int32)) q4.2.1 q4.2.2 _ _ _ _ hf K hP hD hS (lv_sub hl [1, 2, 3, 4, 5, 0] rfl)
        · have hf := ob_neg c5 hf
          refine lv_iload_n hx hb dX11_share_37 rfl (lv_at hl 2 rfl) ?_
          refine lv_if_lt (tgt := 58) hx hb dX11_share_38 (by decide) (fun c6 => ?_) (fun c6 => ?_)
          · have hf := ob_pos c6 hf
            refine lv_iload hx hb dX11_share_58 (lv_at hl 5 rfl) ?_
            refine lv_istore_n (lv' := [(2, .int y7), (0, .ref a_this), (1, .int y1), (3, .long y3), (5, .long y5), (7, .int y7)]) hx hb dX11_share_60 rfl hl (by decide) rfl (fun ls hl => ?_)
            refine lv_aload_n hx hb dX11_share_61 rfl (lv_at hl 1 rfl) ?_
            refine va_get (D := D) (ci := 10) (v := .long q4.2.1) (C := RX11) (T := TX11) (N := 17) hx hb hts iX11 hown hK hP 0 rfl rfl 14 (by decide) fl99 (fun _ h9 => h9) rfl dX11_share_62 ?_
            refine lv_lstore_n (lv' := [(3, .long q4.2.1), (2, .int y7), (0, .ref a_this), (1, .int y1), (5, .long y5), (7, .int y7)]) hx hb dX11_share_65 rfl hl (by decide) rfl (fun ls hl => ?_)
            refine lv_aload_n hx hb dX11_share_66 rfl (lv_at hl 2 rfl) ?_
            refine va_get (D := D) (ci := 10) (v := .long q4.2.2) (C := RX11) (T := TX11) (N := 17) hx hb hts iX11 hown hK hP 0 rfl rfl 15 (by decide) fl103 (fun _ h9 => h9) rfl dX11_share_67 ?_
            refine lv_lstore (lv' := [(5, .long q4.2.2), (3, .long q4.2.1), (2, .int y7), (0, .ref a_this), (1, .int y1), (7, .int y7)]) hx hb dX11_share_70 hl (by decide) rfl (fun ls hl => ?_)
            refine lv_iinc (v := (y7 + (1 : Int32))) (lv' := [(7, .int (y7 + (1 : Int32))), (5, .long q4.2.2), (3, .long q4.2.1), (2, .int y7), (0, .ref a_this), (1, .int y1)]) hx hb dX11_share_72 hl (k := 5) rfl rfl (by decide) rfl (fun ls hl => ?_)
            refine lv_goto (tgt := 11) hx hb dX11_share_75 (by decide) ?_
            exact ih y7 q4.2.1 q4.2.2 (y7 + (1 : Int32)) q4.2.1 q4.2.2 _ _ _ _ hf K hP hD hS (lv_sub hl [4, 5, 3, 2, 1, 0] rfl)
          · have hf := ob_neg c6 hf
            refine lv_aload_n hx hb dX11_share_41 rfl (lv_at hl 0 rfl) ?_
            refine va_get (D := D) (ci := 10) (v := .long q4.2.1) (C := RX11) (T := TX11) (N := 17) hx hb hts iX11 hown hK hP 0 rfl rfl 14 (by decide) fl99 (fun _ h9 => h9) rfl dX11_share_42 ?_
            refine lv_lload hx hb dX11_share_45 (lv_at hl 4 rfl) ?_
            refine lv_lmul hx hb dX11_share_47 ?_
            refine lv_lload_n hx hb dX11_share_48 rfl (lv_at hl 3 rfl) ?_
            refine lv_aload_n hx hb dX11_share_49 rfl (lv_at hl 0 rfl) ?_
            refine va_get (D := D) (ci := 10) (v := .long q4.2.2) (C := RX11) (T := TX11) (N := 17) hx hb hts iX11 hown hK hP 0 rfl rfl 15 (by decide) fl103 (fun _ h9 => h9) rfl dX11_share_50 ?_
            refine lv_lmul hx hb dX11_share_53 ?_
            refine W.lcmp hx hb dX11_share_54 ?_
            refine lv_if_ge (tgt := 72) hx hb dX11_share_55 (by decide) (fun c7 => ?_) (fun c7 => ?_)
            · have hf := ob_pos c7 hf
              refine lv_iinc (v := (y7 + (1 : Int32))) (lv' := [(7, .int (y7 + (1 : Int32))), (0, .ref a_this), (1, .int y1), (2, .int y2), (3, .long y3), (5, .long y5)]) hx hb dX11_share_72 hl (k := 5) rfl rfl (by decide) rfl (fun ls hl => ?_)
              refine lv_goto (tgt := 11) hx hb dX11_share_75 (by decide) ?_
              exact ih y2 y3 y5 (y7 + (1 : Int32)) q4.2.1 q4.2.2 _ _ _ _ hf K hP hD hS (lv_sub hl [1, 2, 3, 4, 5, 0] rfl)
            · have hf := ob_neg c7 hf
              refine lv_iload hx hb dX11_share_58 (lv_at hl 5 rfl) ?_
              refine lv_istore_n (lv' := [(2, .int y7), (0, .ref a_this), (1, .int y1), (3, .long y3), (5, .long y5), (7, .int y7)]) hx hb dX11_share_60 rfl hl (by decide) rfl (fun ls hl => ?_)
              refine lv_aload_n hx hb dX11_share_61 rfl (lv_at hl 1 rfl) ?_
              refine va_get (D := D) (ci := 10) (v := .long q4.2.1) (C := RX11) (T := TX11) (N := 17) hx hb hts iX11 hown hK hP 0 rfl rfl 14 (by decide) fl99 (fun _ h9 => h9) rfl dX11_share_62 ?_
              refine lv_lstore_n (lv' := [(3, .long q4.2.1), (2, .int y7), (0, .ref a_this), (1, .int y1), (5, .long y5), (7, .int y7)]) hx hb dX11_share_65 rfl hl (by decide) rfl (fun ls hl => ?_)
              refine lv_aload_n hx hb dX11_share_66 rfl (lv_at hl 2 rfl) ?_
              refine va_get (D := D) (ci := 10) (v := .long q4.2.2) (C := RX11) (T := TX11) (N := 17) hx hb hts iX11 hown hK hP 0 rfl rfl 15 (by decide) fl103 (fun _ h9 => h9) rfl dX11_share_67 ?_
              refine lv_lstore (lv' := [(5, .long q4.2.2), (3, .long q4.2.1), (2, .int y7), (0, .ref a_this), (1, .int y1), (7, .int y7)]) hx hb dX11_share_70 hl (by decide) rfl (fun ls hl => ?_)
              refine lv_iinc (v := (y7 + (1 : Int32))) (lv' := [(7, .int (y7 + (1 : Int32))), (5, .long q4.2.2), (3, .long q4.2.1), (2, .int y7), (0, .ref a_this), (1, .int y1)]) hx hb dX11_share_72 hl (k := 5) rfl rfl (by decide) rfl (fun ls hl => ?_)
              refine lv_goto (tgt := 11) hx hb dX11_share_75 (by decide) ?_
              exact ih y7 q4.2.1 q4.2.2 (y7 + (1 : Int32)) q4.2.1 q4.2.2 _ _ _ _ hf K hP hD hS (lv_sub hl [4, 5, 3, 2, 1, 0] rfl)
set_option maxHeartbeats 4000000 in
set_option maxRecDepth 100000 in
theorem wl_X11_share_88 {p : Program} {l : Launch} {e : Env} {s : State} {m : MethodId} {args : Array Value} {below : List Frame} {meth : Method} {c : Code} {A : Nat → Prop} {Q : State → Prop} {D : va_G} {cyI cyJ cyZ : ClassId} {a_this a_sets a_papers a_worths a_sign a_hallSign a_chosen a_upper a_lower : Nat} {y1 : Int32} {y2 : Int32} {y3 : Int64} {v_heaps : Int32} {v_seats : Int32} {v_signs : Int32} {v_hallMany : Int32} {v_chosenSet : Int32} {v_paidSeats : Int32} {v_rhoUp : Int64} {v_rhoBy : Int64} {v_breachGroup : Int32} {v_chosen : Nat → Int32} {v_lower : Nat → Int64} {v_papers : Nat → Int32} {v_sets : Nat → Int32} (C : kC p s m args c cX11_share 10 RX11 wsX11_share D (kTy cyI cyJ cyZ) A) :
    ∀ (n : Nat) (y7 : Int32) (v_upper : Nat → Int64) (q : (Nat → Int64)) (H : Heap) (locs : List Loc) (ls : Array Slot), lp_X11_share_88 y1 y2 y3 v_heaps v_sets n y7 v_upper = some q → (∀ (H : Heap) (locs : List Loc) (ls : Array Slot), va_P D vwCl (wd_X11_share cyI cyJ cyZ a_this a_sets a_papers a_worths a_sign a_hallSign a_chosen a_upper a_lower v_heaps v_seats v_signs v_hallMany v_chosenSet v_paidSeats v_rhoUp v_rhoBy v_breachGroup v_chosen v_lower v_papers v_sets q) H → va_D A (wd_X11_share cyI cyJ cyZ a_this a_sets a_papers a_worths a_sign a_hallSign a_chosen a_upper a_lower v_heaps v_seats v_signs v_hallMany v_chosenSet v_paidSeats v_rhoUp v_rhoBy v_breachGroup v_chosen v_lower v_papers v_sets q) → va_S A s.heap H locs → lv_has ls 10 [(0, .ref a_this), (1, .int y1), (2, .int y2)] → W p l e rm_X11_share s m args below meth c H locs 0 0 Q (F0 m 167 ls [])) → va_P D vwCl (wd_X11_share cyI cyJ cyZ a_this a_sets a_papers a_worths a_sign a_hallSign a_chosen a_upper a_lower v_heaps v_seats v_signs v_hallMany v_chosenSet v_paidSeats v_rhoUp v_rhoBy v_breachGroup v_chosen v_lower v_papers v_sets v_upper) H → va_D A (wd_X11_share cyI cyJ cyZ a_this a_sets a_papers a_worths a_sign a_hallSign a_chosen a_upper a_lower v_heaps v_seats v_signs v_hallMany v_chosenSet v_paidSeats v_rhoUp v_rhoBy v_breachGroup v_chosen v_lower v_papers v_sets v_upper) → va_S A s.heap H locs → lv_has ls 10 [(0, .ref a_this), (1, .int y1), (2, .int y2), (3, .long y3), (7, .int y7)] → W p l e rm_X11_share s m args below meth c H locs 0 0 Q (F0 m 88 ls []) := by
  obtain ⟨hx, hb, hml, hown, hts, hK, hA⟩ := id C
  have iX11 : ∀ w ∈ u_ws RX11 TX11 17, w ∈ wsX11_share := by decide +kernel
  have fl7 := hts (.fieldLink RX11 7 "FairSeatsModel" "sets" "[I") (by decide +kernel)
  have fl32 := hts (.fieldLink RX11 32 "FairSeatsModel" "upper" "[J") (by decide +kernel)
  have fl39 := hts (.fieldLink RX11 39 "FairSeatsModel" "heaps" "I") (by decide +kernel)
  intro n
  induction n with
  | zero =>
    intro y7 v_upper q H locs ls hf K hP hD hS hl
    rw [lp_X11_share_88] at hf
    cases hf
  | succ n ih =>
    intro y7 v_upper q H locs ls hf K hP hD hS hl
    rw [lp_X11_share_88] at hf
    refine lv_iload hx hb dX11_share_88 (lv_at hl 4 rfl) ?_
    refine lv_aload_n hx hb dX11_share_90 rfl (lv_at hl 0 rfl) ?_
    refine va_get (D := D) (ci := 10) (v := .int v_heaps) (C := RX11) (T := TX11) (N := 17) hx hb hts iX11 hown hK hP 0 rfl rfl 0 (by decide) fl39 (fun _ h9 => h9) rfl dX11_share_91 ?_
    refine lv_icmp_ge (tgt := 167) hx hb dX11_share_94 (by decide) (fun c10 => ?_) (fun c10 => ?_)
    · have hf := ob_pos c10 hf
      obtain rfl := Option.some.inj hf
      exact K _ _ _ hP hD hS (lv_sub hl [0, 1, 2] rfl)
    · have hf := ob_neg c10 hf
      refine lv_iload_n hx hb dX11_share_97 rfl (lv_at hl 2 rfl) ?_
      refine lv_if_lt (tgt := 167) hx hb dX11_share_98 (by decide) (fun c11 => ?_) (fun c11 => ?_)
      · have hf := ob_pos c11 hf
        obtain rfl := Option.some.inj hf
        exact K _ _ _ hP hD hS (lv_sub hl [0, 1, 2] rfl)
      · have hf := ob_neg c11 hf
        refine lv_aload_n hx hb dX11_share_101 rfl (lv_at hl 0 rfl) ?_
        refine va_get (D := D) (ci := 10) (v := .ref a_sets) (C := RX11) (T := TX11) (N := 17) hx hb hts iX11 hown hK hP 0 rfl rfl 1 (by decide) fl7 (fun _ h9 => h9) rfl dX11_share_102 ?_
        refine lv_iload hx hb dX11_share_105 (lv_at hl 4 rfl) ?_
        obtain ⟨h12, hf⟩ := og_in hf
        refine va_iald hx hb hK hP 4 0 rfl rfl h12 dX11_share_107 ?_
        refine lv_iload_n hx hb dX11_share_108 rfl (lv_at hl 2 rfl) ?_
        refine lv_ishr hx hb dX11_share_109 ?_
        refine lv_iconst (v := (1 : Int32)) hx hb dX11_share_110 (by decide) ?_
        refine lv_iand hx hb dX11_share_111 ?_
        refine lv_iconst (v := (1 : Int32)) hx hb dX11_share_112 (by decide) ?_
        refine lv_icmp_ne (tgt := 161) hx hb dX11_share_113 (by decide) (fun c13 => ?_) (fun c13 => ?_)
        · have hf := ob_neg c13 hf
          refine lv_iinc (v := (y7 + (1 : Int32))) (lv' := [(7, .int (y7 + (1 : Int32))), (0, .ref a_this), (1, .int y1), (2, .int y2), (3, .long y3)]) hx hb dX11_share_161 hl (k := 4) rfl rfl (by decide) rfl (fun ls hl => ?_)
          refine lv_goto (tgt := 88) hx hb dX11_share_164 (by decide) ?_
          exact ih (y7 + (1 : Int32)) v_upper _ _ _ _ hf K hP hD hS (lv_sub hl [1, 2, 3, 4, 0] rfl)
        · have hf := ob_pos c13 hf
          refine lv_aload_n hx hb dX11_share_116 rfl (lv_at hl 0 rfl) ?_
          refine va_get (D := D) (ci := 10) (v := .ref a_upper) (C := RX11) (T := TX11) (N := 17) hx hb hts iX11 hown hK hP 0 rfl rfl 12 (by decide) fl32 (fun _ h9 => h9) rfl dX11_share_117 ?_
          refine lv_bipush (v := (7 : Int32)) hx hb dX11_share_120 (by decide) ?_
          refine lv_iload_n hx hb dX11_share_122 rfl (lv_at hl 1 rfl) ?_
          refine lv_iconst (v := (1 : Int32)) hx hb dX11_share_123 (by decide) ?_
          refine lv_iadd hx hb dX11_share_124 ?_
          refine lv_imul hx hb dX11_share_125 ?_
          refine lv_iload hx hb dX11_share_126 (lv_at hl 4 rfl) ?_
          refine lv_iadd hx hb dX11_share_128 ?_
          obtain ⟨h14, hf⟩ := og_in hf
          refine va_lald hx hb hK hP 5 1 rfl rfl h14 dX11_share_129 ?_
          refine lv_lload_n hx hb dX11_share_130 rfl (lv_at hl 3 rfl) ?_
          refine lv_lsub hx hb dX11_share_131 ?_
          refine lv_lstore (lv' := [(8, .long ((v_upper (((7 : Int32) * (y1 + (1 : Int32))) + y7).toNatClampNeg) - y3)), (0, .ref a_this), (1, .int y1), (2, .int y2), (3, .long y3), (7, .int y7)]) hx hb dX11_share_132 hl (by decide) rfl (fun ls hl => ?_)
          refine lv_aload_n hx hb dX11_share_134 rfl (lv_at hl 1 rfl) ?_
          refine va_get (D := D) (ci := 10) (v := .ref a_upper) (C := RX11) (T := TX11) (N := 17) hx hb hts iX11 hown hK hP 0 rfl rfl 12 (by decide) fl32 (fun _ h9 => h9) rfl dX11_share_135 ?_
          refine lv_bipush (v := (7 : Int32)) hx hb dX11_share_138 (by decide) ?_
          refine lv_iload_n hx hb dX11_share_140 rfl (lv_at hl 2 rfl) ?_
          refine lv_iconst (v := (1 : Int32)) hx hb dX11_share_141 (by decide) ?_
          refine lv_iadd hx hb dX11_share_142 ?_
          refine lv_imul hx hb dX11_share_143 ?_
          refine lv_iload hx hb dX11_share_144 (lv_at hl 5 rfl) ?_
          refine lv_iadd hx hb dX11_share_146 ?_
          refine lv_lload hx hb dX11_share_147 (lv_at hl 0 rfl) ?_
          refine lv_lconst (v := 0) hx hb dX11_share_149 (by decide) ?_
          refine W.lcmp hx hb dX11_share_150 ?_
          refine lv_if_ge (tgt := 158) hx hb dX11_share_151 (by decide) (fun c15 => ?_) (fun c15 => ?_)
          · have hf := ob_pos c15 hf
            refine lv_lload hx hb dX11_share_158 (lv_at hl 0 rfl) ?_
            obtain ⟨h16, hf⟩ := og_in hf
            refine va_last hx hb hK hP hD hS 5 1 rfl rfl h16 dX11_share_160 (fun H locs hP hD hS => ?_)
            have hP : va_P D vwCl (wd_X11_share cyI cyJ cyZ a_this a_sets a_papers a_worths a_sign a_hallSign a_chosen a_upper a_lower v_heaps v_seats v_signs v_hallMany v_chosenSet v_paidSeats v_rhoUp v_rhoBy v_breachGroup v_chosen v_lower v_papers v_sets (vp_updL v_upper (((7 : Int32) * (y1 + (1 : Int32))) + y7).toNatClampNeg ((v_upper (((7 : Int32) * (y1 + (1 : Int32))) + y7).toNatClampNeg) - y3))) H := hP
            have hD : va_D A (wd_X11_share cyI cyJ cyZ a_this a_sets a_papers a_worths a_sign a_hallSign a_chosen a_upper a_lower v_heaps v_seats v_signs v_hallMany v_chosenSet v_paidSeats v_rhoUp v_rhoBy v_breachGroup v_chosen v_lower v_papers v_sets (vp_updL v_upper (((7 : Int32) * (y1 + (1 : Int32))) + y7).toNatClampNeg ((v_upper (((7 : Int32) * (y1 + (1 : Int32))) + y7).toNatClampNeg) - y3))) := hD
            refine lv_iinc (v := (y7 + (1 : Int32))) (lv' := [(7, .int (y7 + (1 : Int32))), (8, .long ((v_upper (((7 : Int32) * (y1 + (1 : Int32))) + y7).toNatClampNeg) - y3)), (0, .ref a_this), (1, .int y1), (2, .int y2), (3, .long y3)]) hx hb dX11_share_161 hl (k := 5) rfl rfl (by decide) rfl (fun ls hl => ?_)
            refine lv_goto (tgt := 88) hx hb dX11_share_164 (by decide) ?_
            exact ih (y7 + (1 : Int32)) (vp_updL v_upper (((7 : Int32) * (y1 + (1 : Int32))) + y7).toNatClampNeg ((v_upper (((7 : Int32) * (y1 + (1 : Int32))) + y7).toNatClampNeg) - y3)) _ _ _ _ hf K hP hD hS (lv_sub hl [2, 3, 4, 5, 0] rfl)
          · have hf := ob_neg c15 hf
            refine lv_lconst (v := 0) hx hb dX11_share_154 (by decide) ?_
            refine lv_goto (tgt := 160) hx hb dX11_share_155 (by decide) ?_
            obtain ⟨h17, hf⟩ := og_in hf
            refine va_last hx hb hK hP hD hS 5 1 rfl rfl h17 dX11_share_160 (fun H locs hP hD hS => ?_)
            have hP : va_P D vwCl (wd_X11_share cyI cyJ cyZ a_this a_sets a_papers a_worths a_sign a_hallSign a_chosen a_upper a_lower v_heaps v_seats v_signs v_hallMany v_chosenSet v_paidSeats v_rhoUp v_rhoBy v_breachGroup v_chosen v_lower v_papers v_sets (vp_updL v_upper (((7 : Int32) * (y1 + (1 : Int32))) + y7).toNatClampNeg (0 : Int64))) H := hP
            have hD : va_D A (wd_X11_share cyI cyJ cyZ a_this a_sets a_papers a_worths a_sign a_hallSign a_chosen a_upper a_lower v_heaps v_seats v_signs v_hallMany v_chosenSet v_paidSeats v_rhoUp v_rhoBy v_breachGroup v_chosen v_lower v_papers v_sets (vp_updL v_upper (((7 : Int32) * (y1 + (1 : Int32))) + y7).toNatClampNeg (0 : Int64))) := hD
            refine lv_iinc (v := (y7 + (1 : Int32))) (lv' := [(7, .int (y7 + (1 : Int32))), (8, .long ((v_upper (((7 : Int32) * (y1 + (1 : Int32))) + y7).toNatClampNeg) - y3)), (0, .ref a_this), (1, .int y1), (2, .int y2), (3, .long y3)]) hx hb dX11_share_161 hl (k := 5) rfl rfl (by decide) rfl (fun ls hl => ?_)
            refine lv_goto (tgt := 88) hx hb dX11_share_164 (by decide) ?_
            exact ih (y7 + (1 : Int32)) (vp_updL v_upper (((7 : Int32) * (y1 + (1 : Int32))) + y7).toNatClampNeg (0 : Int64)) _ _ _ _ hf K hP hD hS (lv_sub hl [2, 3, 4, 5, 0] rfl)
set_option maxHeartbeats 4000000 in
set_option maxRecDepth 100000 in
theorem c_X11_share (l : Launch) (D : va_G) (cyI cyJ cyZ : ClassId) (a_this a_sets a_papers a_worths a_sign a_hallSign a_chosen a_upper a_lower : Nat) (v_heaps : Int32) (v_seats : Int32) (v_signs : Int32) (v_hallMany : Int32) (v_chosenSet : Int32) (v_paidSeats : Int32) (v_rhoUp : Int64) (v_rhoBy : Int64) (v_breachGroup : Int32) (v_chosen : Nat → Int32) (v_lower : Nat → Int64) (v_papers : Nat → Int32) (v_sets : Nat → Int32) (v_upper : Nat → Int64) (x1 : Int32) (q : Int32 × Int32 × Int64 × Int64 × (Nat → Int32) × (Nat → Int64) × (Nat → Int64)) (hf : f_X11_share x1 v_heaps v_chosenSet v_paidSeats v_rhoUp v_rhoBy v_chosen v_lower v_papers v_sets v_upper = some q) : kMv l yX11_share wsX11_share rm_X11_share D (kTy cyI cyJ cyZ) [.ref a_this, .int x1] (wd_X11_share cyI cyJ cyZ a_this a_sets a_papers a_worths a_sign a_hallSign a_chosen a_upper a_lower v_heaps v_seats v_signs v_hallMany v_chosenSet v_paidSeats v_rhoUp v_rhoBy v_breachGroup v_chosen v_lower v_papers v_sets v_upper) (wd_X11_share cyI cyJ cyZ a_this a_sets a_papers a_worths a_sign a_hallSign a_chosen a_upper a_lower v_heaps v_seats v_signs v_hallMany q.1 q.2.1 q.2.2.1 q.2.2.2.1 v_breachGroup q.2.2.2.2.1 q.2.2.2.2.2.1 v_papers v_sets q.2.2.2.2.2.2) := by
  refine kMv_of (cc := cX11_share) (nL := 10) (own := RX11) (by decide) rfl rfl (Nat.le_of_ble_eq_true rfl) ?_
  intro p e s m below meth c A Q ls C hret hP hD hS hl
  have hl : lv_has ls 10 [(0, .ref a_this), (1, .int x1)] := hl
  unfold f_X11_share at hf
  obtain ⟨hx, hb, hml, hown, hts, hK, hA⟩ := id C
  have iX11 : ∀ w ∈ u_ws RX11 TX11 17, w ∈ wsX11_share := by decide +kernel
  have fl110 := hts (.fieldLink RX11 110 "FairSeatsModel" "paidSeats" "I") (by decide +kernel)
  have cw85 := cwV (R := rm_X11_share) (rm := rm_X11_carry) 2 hts gX11_share_X11_carry rfl rfl rfl (by decide +kernel) ⟨Nat.le_of_ble_eq_true rfl, Nat.le_of_ble_eq_true rfl⟩
  have cw89 := cwV (R := rm_X11_share) (rm := rm_X11_mostOf) 0 hts gX11_share_X11_mostOf rfl rfl rfl (by decide +kernel) ⟨Nat.le_of_ble_eq_true rfl, Nat.le_of_ble_eq_true rfl⟩
  have cw92 := cwV (R := rm_X11_share) (rm := rm_X11_pick) 2 hts gX11_share_X11_pick rfl rfl rfl (by decide +kernel) ⟨Nat.le_of_ble_eq_true rfl, Nat.le_of_ble_eq_true rfl⟩
  refine lv_bipush (v := (-6 : Int32)) hx hb dX11_share_0 (by decide) ?_
  refine lv_istore_n (lv' := [(2, .int (-6 : Int32)), (0, .ref a_this), (1, .int x1)]) hx hb dX11_share_2 rfl hl (by decide) rfl (fun ls hl => ?_)
  refine lv_lconst (v := 0) hx hb dX11_share_3 (by decide) ?_
  refine lv_lstore_n (lv' := [(3, .long (0 : Int64)), (2, .int (-6 : Int32)), (0, .ref a_this), (1, .int x1)]) hx hb dX11_share_4 rfl hl (by decide) rfl (fun ls hl => ?_)
  refine lv_lconst (v := 1) hx hb dX11_share_5 (by decide) ?_
  refine lv_lstore (lv' := [(5, .long (1 : Int64)), (3, .long (0 : Int64)), (2, .int (-6 : Int32)), (0, .ref a_this), (1, .int x1)]) hx hb dX11_share_6 hl (by decide) rfl (fun ls hl => ?_)
  refine lv_iconst (v := (0 : Int32)) hx hb dX11_share_8 (by decide) ?_
  refine lv_istore (lv' := [(7, .int (0 : Int32)), (5, .long (1 : Int64)), (3, .long (0 : Int64)), (2, .int (-6 : Int32)), (0, .ref a_this), (1, .int x1)]) hx hb dX11_share_9 hl (by decide) rfl (fun ls hl => ?_)
  obtain ⟨q8, hq8, hf⟩ := ob_bind hf
  refine wl_X11_share_11 C FU (-6 : Int32) (0 : Int64) (1 : Int64) (0 : Int32) v_rhoUp v_rhoBy _ _ _ _ hq8 (fun H locs ls hP hD hS hl => ?_) hP hD hS (lv_sub hl [4, 5, 3, 2, 1, 0] rfl)
  refine lv_aload_n hx hb dX11_share_78 rfl (lv_at hl 0 rfl) ?_
  refine lv_iload_n hx hb dX11_share_79 rfl (lv_at hl 1 rfl) ?_
  refine lv_lload hx hb dX11_share_80 (lv_at hl 4 rfl) ?_
  obtain ⟨q9, hq9, hf⟩ := ob_bind hf
  refine k_Vv (wo := (wd_X11_share cyI cyJ cyZ a_this a_sets a_papers a_worths a_sign a_hallSign a_chosen a_upper a_lower v_heaps v_seats v_signs v_hallMany v_chosenSet v_paidSeats q8.2.2.2.1 q8.2.2.2.2 v_breachGroup v_chosen q9.1 v_papers v_sets q9.2)) (As := [.int x1, .long q8.2.2.1]) (rest := []) C (c_X11_carry l D cyI cyJ cyZ a_this a_sets a_papers a_worths a_sign a_hallSign a_chosen a_upper a_lower v_heaps v_seats v_signs v_hallMany v_chosenSet v_paidSeats q8.2.2.2.1 q8.2.2.2.2 v_breachGroup v_lower v_upper x1 q8.2.2.1 q9 hq9) cw85 hP hD hS [0, 2, 5] [1, 3, 4] [3, 0, 4, 1, 2, 5] rfl rfl rfl (by decide) 0 (ci := 10) rfl rfl rfl rfl rfl hl.1 (Nat.le_of_ble_eq_true rfl) dX11_share_82 ⟨Nat.zero_le _, Nat.zero_le _⟩ (fun H locs hP hD hS => ?_)
  refine lv_iconst (v := (0 : Int32)) hx hb dX11_share_85 (by decide) ?_
  refine lv_istore (lv' := [(7, .int (0 : Int32)), (0, .ref a_this), (1, .int x1), (2, .int q8.1), (3, .long q8.2.1), (5, .long q8.2.2.1)]) hx hb dX11_share_86 hl (by decide) rfl (fun ls hl => ?_)
  obtain ⟨q18, hq18, hf⟩ := ob_bind hf
  refine wl_X11_share_88 C FU (0 : Int32) q9.2 _ _ _ _ hq18 (fun H locs ls hP hD hS hl => ?_) hP hD hS (lv_sub hl [1, 2, 3, 4, 0] rfl)
  refine lv_aload_n hx hb dX11_share_167 rfl (lv_at hl 0 rfl) ?_
  refine lv_dup hx hb dX11_share_168 rfl ?_
  refine va_get (D := D) (ci := 10) (v := .int v_paidSeats) (C := RX11) (T := TX11) (N := 17) hx hb hts iX11 hown hK hP 0 rfl rfl 11 (by decide) fl110 (fun _ h9 => h9) rfl dX11_share_169 ?_
  refine lv_iload_n hx hb dX11_share_172 rfl (lv_at hl 2 rfl) ?_
  refine lv_if_ge (tgt := 180) hx hb dX11_share_173 (by decide) (fun c19 => ?_) (fun c19 => ?_)
  · have hf := ob_pos c19 hf
    refine lv_iconst (v := (1 : Int32)) hx hb dX11_share_180 (by decide) ?_
    refine lv_iadd hx hb dX11_share_181 ?_
    refine va_put (D := D) (ci := 10) (v := .int (v_paidSeats + (1 : Int32))) (ty := .int) (C := RX11) (T := TX11) (N := 17) hx hb hts iX11 tyX11 tyX11_ok nmX11 hown hK hP hD hS 0 rfl rfl 11 (by decide) fl110 (fun _ h9 => h9) rfl (by decide +kernel) rfl rfl (Nat.le_of_ble_eq_true rfl) dX11_share_182 (fun H locs hP hD hS => ?_)
    have hP : va_P D vwCl (wd_X11_share cyI cyJ cyZ a_this a_sets a_papers a_worths a_sign a_hallSign a_chosen a_upper a_lower v_heaps v_seats v_signs v_hallMany v_chosenSet (v_paidSeats + (1 : Int32)) q8.2.2.2.1 q8.2.2.2.2 v_breachGroup v_chosen q9.1 v_papers v_sets q18) H := hP
    have hD : va_D A (wd_X11_share cyI cyJ cyZ a_this a_sets a_papers a_worths a_sign a_hallSign a_chosen a_upper a_lower v_heaps v_seats v_signs v_hallMany v_chosenSet (v_paidSeats + (1 : Int32)) q8.2.2.2.1 q8.2.2.2.2 v_breachGroup v_chosen q9.1 v_papers v_sets q18) := hD
    refine lv_aload_n hx hb dX11_share_185 rfl (lv_at hl 0 rfl) ?_
    refine lv_iload_n hx hb dX11_share_186 rfl (lv_at hl 1 rfl) ?_
    refine lv_iload_n hx hb dX11_share_187 rfl (lv_at hl 2 rfl) ?_
    refine lv_if_ge (tgt := 198) hx hb dX11_share_188 (by decide) (fun c20 => ?_) (fun c20 => ?_)
    · have hf := ob_pos c20 hf
      refine lv_iload_n hx hb dX11_share_198 rfl (lv_at hl 2 rfl) ?_
      obtain ⟨q21, hq21, hf⟩ := ob_bind hf
      refine k_Vv (wo := (wd_X11_share cyI cyJ cyZ a_this a_sets a_papers a_worths a_sign a_hallSign a_chosen a_upper a_lower v_heaps v_seats v_signs v_hallMany q21.1 (v_paidSeats + (1 : Int32)) q8.2.2.2.1 q8.2.2.2.2 v_breachGroup q21.2 q9.1 v_papers v_sets q18)) (As := [.int x1, .int q8.1]) (rest := []) C (c_X11_pick l D cyI cyJ cyZ a_this a_sets a_papers a_worths a_sign a_hallSign a_chosen a_upper a_lower v_heaps v_seats v_signs v_hallMany v_chosenSet (v_paidSeats + (1 : Int32)) q8.2.2.2.1 q8.2.2.2.2 v_breachGroup v_chosen x1 q8.1 q21 hq21) cw92 hP hD hS [0, 1] [2, 3, 4, 5] [4, 5, 0, 1, 2, 3] rfl rfl rfl (by decide) 0 (ci := 10) rfl rfl rfl rfl rfl hl.1 (Nat.le_of_ble_eq_true rfl) dX11_share_199 ⟨Nat.zero_le _, Nat.zero_le _⟩ (fun H locs hP hD hS => ?_)
      obtain rfl := Option.some.inj hf
      exact hret _ _ _ _ dX11_share_202 hP hD hS
    · have hf := ob_neg c20 hf
      refine lv_aload_n hx hb dX11_share_191 rfl (lv_at hl 0 rfl) ?_
      obtain ⟨q22, hq22, hf⟩ := ob_bind hf
      refine k_Vi (wo := (wd_X11_share cyI cyJ cyZ a_this a_sets a_papers a_worths a_sign a_hallSign a_chosen a_upper a_lower v_heaps v_seats v_signs v_hallMany v_chosenSet (v_paidSeats + (1 : Int32)) q8.2.2.2.1 q8.2.2.2.2 v_breachGroup v_chosen q9.1 v_papers v_sets q18)) (As := []) (rest := [.int x1, .ref a_this]) C (c_X11_mostOf l D cyI cyJ cyZ a_this a_sets a_papers a_worths a_sign a_hallSign a_chosen a_upper a_lower v_heaps v_seats v_signs v_hallMany v_chosenSet (v_paidSeats + (1 : Int32)) q8.2.2.2.1 q8.2.2.2.2 v_breachGroup v_papers v_sets  q22 hq22) cw89 hP hD hS [0, 3, 4] [1, 2, 5] [3, 0, 1, 4, 5, 2] rfl rfl rfl (by decide) 0 (ci := 10) rfl rfl rfl rfl rfl hl.1 (Nat.le_of_ble_eq_true rfl) dX11_share_192 ⟨Nat.zero_le _, Nat.zero_le _⟩ (fun H locs hP hD hS => ?_)
      refine lv_goto (tgt := 199) hx hb dX11_share_195 (by decide) ?_
      obtain ⟨q23, hq23, hf⟩ := ob_bind hf
      refine k_Vv (wo := (wd_X11_share cyI cyJ cyZ a_this a_sets a_papers a_worths a_sign a_hallSign a_chosen a_upper a_lower v_heaps v_seats v_signs v_hallMany q23.1 (v_paidSeats + (1 : Int32)) q8.2.2.2.1 q8.2.2.2.2 v_breachGroup q23.2 q9.1 v_papers v_sets q18)) (As := [.int x1, .int q22]) (rest := []) C (c_X11_pick l D cyI cyJ cyZ a_this a_sets a_papers a_worths a_sign a_hallSign a_chosen a_upper a_lower v_heaps v_seats v_signs v_hallMany v_chosenSet (v_paidSeats + (1 : Int32)) q8.2.2.2.1 q8.2.2.2.2 v_breachGroup v_chosen x1 q22 q23 hq23) cw92 hP hD hS [0, 1] [2, 3, 4, 5] [4, 5, 0, 1, 2, 3] rfl rfl rfl (by decide) 0 (ci := 10) rfl rfl rfl rfl rfl hl.1 (Nat.le_of_ble_eq_true rfl) dX11_share_199 ⟨Nat.zero_le _, Nat.zero_le _⟩ (fun H locs hP hD hS => ?_)
      obtain rfl := Option.some.inj hf
      exact hret _ _ _ _ dX11_share_202 hP hD hS
  · have hf := ob_neg c19 hf
    refine lv_iconst (v := (0 : Int32)) hx hb dX11_share_176 (by decide) ?_
    refine lv_goto (tgt := 181) hx hb dX11_share_177 (by decide) ?_
    refine lv_iadd hx hb dX11_share_181 ?_
    refine va_put (D := D) (ci := 10) (v := .int (v_paidSeats + (0 : Int32))) (ty := .int) (C := RX11) (T := TX11) (N := 17) hx hb hts iX11 tyX11 tyX11_ok nmX11 hown hK hP hD hS 0 rfl rfl 11 (by decide) fl110 (fun _ h9 => h9) rfl (by decide +kernel) rfl rfl (Nat.le_of_ble_eq_true rfl) dX11_share_182 (fun H locs hP hD hS => ?_)
    have hP : va_P D vwCl (wd_X11_share cyI cyJ cyZ a_this a_sets a_papers a_worths a_sign a_hallSign a_chosen a_upper a_lower v_heaps v_seats v_signs v_hallMany v_chosenSet (v_paidSeats + (0 : Int32)) q8.2.2.2.1 q8.2.2.2.2 v_breachGroup v_chosen q9.1 v_papers v_sets q18) H := hP
    have hD : va_D A (wd_X11_share cyI cyJ cyZ a_this a_sets a_papers a_worths a_sign a_hallSign a_chosen a_upper a_lower v_heaps v_seats v_signs v_hallMany v_chosenSet (v_paidSeats + (0 : Int32)) q8.2.2.2.1 q8.2.2.2.2 v_breachGroup v_chosen q9.1 v_papers v_sets q18) := hD
    refine lv_aload_n hx hb dX11_share_185 rfl (lv_at hl 0 rfl) ?_
    refine lv_iload_n hx hb dX11_share_186 rfl (lv_at hl 1 rfl) ?_
    refine lv_iload_n hx hb dX11_share_187 rfl (lv_at hl 2 rfl) ?_
    refine lv_if_ge (tgt := 198) hx hb dX11_share_188 (by decide) (fun c24 => ?_) (fun c24 => ?_)
    · have hf := ob_pos c24 hf
      refine lv_iload_n hx hb dX11_share_198 rfl (lv_at hl 2 rfl) ?_
      obtain ⟨q25, hq25, hf⟩ := ob_bind hf
      refine k_Vv (wo := (wd_X11_share cyI cyJ cyZ a_this a_sets a_papers a_worths a_sign a_hallSign a_chosen a_upper a_lower v_heaps v_seats v_signs v_hallMany q25.1 (v_paidSeats + (0 : Int32)) q8.2.2.2.1 q8.2.2.2.2 v_breachGroup q25.2 q9.1 v_papers v_sets q18)) (As := [.int x1, .int q8.1]) (rest := []) C (c_X11_pick l D cyI cyJ cyZ a_this a_sets a_papers a_worths a_sign a_hallSign a_chosen a_upper a_lower v_heaps v_seats v_signs v_hallMany v_chosenSet (v_paidSeats + (0 : Int32)) q8.2.2.2.1 q8.2.2.2.2 v_breachGroup v_chosen x1 q8.1 q25 hq25) cw92 hP hD hS [0, 1] [2, 3, 4, 5] [4, 5, 0, 1, 2, 3] rfl rfl rfl (by decide) 0 (ci := 10) rfl rfl rfl rfl rfl hl.1 (Nat.le_of_ble_eq_true rfl) dX11_share_199 ⟨Nat.zero_le _, Nat.zero_le _⟩ (fun H locs hP hD hS => ?_)
      obtain rfl := Option.some.inj hf
      exact hret _ _ _ _ dX11_share_202 hP hD hS
    · have hf := ob_neg c24 hf
      refine lv_aload_n hx hb dX11_share_191 rfl (lv_at hl 0 rfl) ?_
      obtain ⟨q26, hq26, hf⟩ := ob_bind hf
      refine k_Vi (wo := (wd_X11_share cyI cyJ cyZ a_this a_sets a_papers a_worths a_sign a_hallSign a_chosen a_upper a_lower v_heaps v_seats v_signs v_hallMany v_chosenSet (v_paidSeats + (0 : Int32)) q8.2.2.2.1 q8.2.2.2.2 v_breachGroup v_chosen q9.1 v_papers v_sets q18)) (As := []) (rest := [.int x1, .ref a_this]) C (c_X11_mostOf l D cyI cyJ cyZ a_this a_sets a_papers a_worths a_sign a_hallSign a_chosen a_upper a_lower v_heaps v_seats v_signs v_hallMany v_chosenSet (v_paidSeats + (0 : Int32)) q8.2.2.2.1 q8.2.2.2.2 v_breachGroup v_papers v_sets  q26 hq26) cw89 hP hD hS [0, 3, 4] [1, 2, 5] [3, 0, 1, 4, 5, 2] rfl rfl rfl (by decide) 0 (ci := 10) rfl rfl rfl rfl rfl hl.1 (Nat.le_of_ble_eq_true rfl) dX11_share_192 ⟨Nat.zero_le _, Nat.zero_le _⟩ (fun H locs hP hD hS => ?_)
      refine lv_goto (tgt := 199) hx hb dX11_share_195 (by decide) ?_
      obtain ⟨q27, hq27, hf⟩ := ob_bind hf
      refine k_Vv (wo := (wd_X11_share cyI cyJ cyZ a_this a_sets a_papers a_worths a_sign a_hallSign a_chosen a_upper a_lower v_heaps v_seats v_signs v_hallMany q27.1 (v_paidSeats + (0 : Int32)) q8.2.2.2.1 q8.2.2.2.2 v_breachGroup q27.2 q9.1 v_papers v_sets q18)) (As := [.int x1, .int q26]) (rest := []) C (c_X11_pick l D cyI cyJ cyZ a_this a_sets a_papers a_worths a_sign a_hallSign a_chosen a_upper a_lower v_heaps v_seats v_signs v_hallMany v_chosenSet (v_paidSeats + (0 : Int32)) q8.2.2.2.1 q8.2.2.2.2 v_breachGroup v_chosen x1 q26 q27 hq27) cw92 hP hD hS [0, 1] [2, 3, 4, 5] [4, 5, 0, 1, 2, 3] rfl rfl rfl (by decide) 0 (ci := 10) rfl rfl rfl rfl rfl hl.1 (Nat.le_of_ble_eq_true rfl) dX11_share_199 ⟨Nat.zero_le _, Nat.zero_le _⟩ (fun H locs hP hD hS => ?_)
      obtain rfl := Option.some.inj hf
      exact hret _ _ _ _ dX11_share_202 hP hD hS
