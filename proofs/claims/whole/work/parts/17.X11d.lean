abbrev rm_X11_bestOf : Room := { frames := 2, cells := 0, slots := 0, locals := 49 }
abbrev wd_X11_bestOf (cyI cyJ cyZ : ClassId) (a_this a_sets a_papers a_worths a_sign a_hallSign a_chosen a_upper a_lower : Nat) (v_heaps : Int32) (v_seats : Int32) (v_signs : Int32) (v_hallMany : Int32) (v_chosenSet : Int32) (v_paidSeats : Int32) (v_rhoUp : Int64) (v_rhoBy : Int64) (v_breachGroup : Int32) (v_hallSign : Nat → Int32) (v_papers : Nat → Int32) (v_sets : Nat → Int32) (v_worths : Nat → Int32) : va_W := [(a_this, .inr (10, [.int v_heaps, .ref a_sets, .ref a_papers, .int v_seats, .ref a_worths, .int v_signs, .ref a_sign, .int v_hallMany, .ref a_hallSign, .ref a_chosen, .int v_chosenSet, .int v_paidSeats, .ref a_upper, .ref a_lower, .long v_rhoUp, .long v_rhoBy, .int v_breachGroup])), (a_hallSign, .inl (cyI, 40, .inl v_hallSign)), (a_papers, .inl (cyI, 7, .inl v_papers)), (a_sets, .inl (cyI, 7, .inl v_sets)), (a_worths, .inl (cyI, 4, .inl v_worths))]
def lp_X11_bestOf_6 (v_heaps : Int32) (v_seats : Int32) (v_hallMany : Int32) (v_hallSign : Nat → Int32) (v_papers : Nat → Int32) (v_sets : Nat → Int32) (v_worths : Nat → Int32) : Nat → Int32 → Int32 → Int32 → Option (Int32)
  | 0, _, _, _ => none
  | n + 1, y1, y2, y3 => (if (256 : Int32) ≤ y3 then some y1 else (f_X11_bits y3).bind (fun q2 => (if q2 = v_seats then (f_X11_worthOf y3 v_heaps v_papers v_sets v_worths).bind (fun q4 => (if q4 ≤ y2 then lp_X11_bestOf_6 v_heaps v_seats v_hallMany v_hallSign v_papers v_sets v_worths n y1 y2 (y3 + (1 : Int32)) else (f_X11_barOf y3 v_hallMany v_hallSign).bind (fun q6 => (if 0 ≤ q6 then lp_X11_bestOf_6 v_heaps v_seats v_hallMany v_hallSign v_papers v_sets v_worths n y1 y2 (y3 + (1 : Int32)) else (f_X11_worthOf y3 v_heaps v_papers v_sets v_worths).bind (fun q8 => lp_X11_bestOf_6 v_heaps v_seats v_hallMany v_hallSign v_papers v_sets v_worths n y3 q8 (y3 + (1 : Int32))))))) else lp_X11_bestOf_6 v_heaps v_seats v_hallMany v_hallSign v_papers v_sets v_worths n y1 y2 (y3 + (1 : Int32)))))
def f_X11_bestOf (v_heaps : Int32) (v_seats : Int32) (v_hallMany : Int32) (v_hallSign : Nat → Int32) (v_papers : Nat → Int32) (v_sets : Nat → Int32) (v_worths : Nat → Int32) : Option (Int32) := (lp_X11_bestOf_6 v_heaps v_seats v_hallMany v_hallSign v_papers v_sets v_worths FU (0 : Int32) (-1 : Int32) (0 : Int32)).bind (fun q9 => some q9)
set_option maxHeartbeats 4000000 in
set_option maxRecDepth 100000 in
theorem wl_X11_bestOf_6 {p : Program} {l : Launch} {e : Env} {s : State} {m : MethodId} {args : Array Value} {below : List Frame} {meth : Method} {c : Code} {A : Nat → Prop} {Q : State → Prop} {D : va_G} {cyI cyJ cyZ : ClassId} {a_this a_sets a_papers a_worths a_sign a_hallSign a_chosen a_upper a_lower : Nat} {v_heaps : Int32} {v_seats : Int32} {v_signs : Int32} {v_hallMany : Int32} {v_chosenSet : Int32} {v_paidSeats : Int32} {v_rhoUp : Int64} {v_rhoBy : Int64} {v_breachGroup : Int32} {v_hallSign : Nat → Int32} {v_papers : Nat → Int32} {v_sets : Nat → Int32} {v_worths : Nat → Int32} (C : kC p s m args c cX11_bestOf 4 RX11 wsX11_bestOf D (kTy cyI cyJ cyZ) A) :
    ∀ (n : Nat) (y1 : Int32) (y2 : Int32) (y3 : Int32) (q : Int32) (H : Heap) (locs : List Loc) (ls : Array Slot), lp_X11_bestOf_6 v_heaps v_seats v_hallMany v_hallSign v_papers v_sets v_worths n y1 y2 y3 = some q → (∀ (H : Heap) (locs : List Loc) (ls : Array Slot), va_P D vwCl (wd_X11_bestOf cyI cyJ cyZ a_this a_sets a_papers a_worths a_sign a_hallSign a_chosen a_upper a_lower v_heaps v_seats v_signs v_hallMany v_chosenSet v_paidSeats v_rhoUp v_rhoBy v_breachGroup v_hallSign v_papers v_sets v_worths) H → va_D A (wd_X11_bestOf cyI cyJ cyZ a_this a_sets a_papers a_worths a_sign a_hallSign a_chosen a_upper a_lower v_heaps v_seats v_signs v_hallMany v_chosenSet v_paidSeats v_rhoUp v_rhoBy v_breachGroup v_hallSign v_papers v_sets v_worths) → va_S A s.heap H locs → lv_has ls 4 [(1, .int q)] → W p l e rm_X11_bestOf s m args below meth c H locs 0 0 Q (F0 m 55 ls [])) → va_P D vwCl (wd_X11_bestOf cyI cyJ cyZ a_this a_sets a_papers a_worths a_sign a_hallSign a_chosen a_upper a_lower v_heaps v_seats v_signs v_hallMany v_chosenSet v_paidSeats v_rhoUp v_rhoBy v_breachGroup v_hallSign v_papers v_sets v_worths) H → va_D A (wd_X11_bestOf cyI cyJ cyZ a_this a_sets a_papers a_worths a_sign a_hallSign a_chosen a_upper a_lower v_heaps v_seats v_signs v_hallMany v_chosenSet v_paidSeats v_rhoUp v_rhoBy v_breachGroup v_hallSign v_papers v_sets v_worths) → va_S A s.heap H locs → lv_has ls 4 [(0, .ref a_this), (1, .int y1), (2, .int y2), (3, .int y3)] → W p l e rm_X11_bestOf s m args below meth c H locs 0 0 Q (F0 m 6 ls []) := by
  obtain ⟨hx, hb, hml, hown, hts, hK, hA⟩ := id C
  have iX11 : ∀ w ∈ u_ws RX11 TX11 17, w ∈ wsX11_bestOf := by decide +kernel
  have fl16 := hts (.fieldLink RX11 16 "FairSeatsModel" "seats" "I") (by decide +kernel)
  have cw60 := va_cwS (R := rm_X11_bestOf) (rm := rm_X11_bits) 1 hts gX11_bestOf_X11_bits rfl rfl rfl (by decide +kernel) ⟨Nat.le_of_ble_eq_true rfl, Nat.le_of_ble_eq_true rfl⟩
  have cw67 := cwV (R := rm_X11_bestOf) (rm := rm_X11_barOf) 1 hts gX11_bestOf_X11_barOf rfl rfl rfl (by decide +kernel) ⟨Nat.le_of_ble_eq_true rfl, Nat.le_of_ble_eq_true rfl⟩
  have cw70 := cwV (R := rm_X11_bestOf) (rm := rm_X11_worthOf) 1 hts gX11_bestOf_X11_worthOf rfl rfl rfl (by decide +kernel) ⟨Nat.le_of_ble_eq_true rfl, Nat.le_of_ble_eq_true rfl⟩
  intro n
  induction n with
  | zero =>
    intro y1 y2 y3 q H locs ls hf K hP hD hS hl
    rw [lp_X11_bestOf_6] at hf
    cases hf
  | succ n ih =>
    intro y1 y2 y3 q H locs ls hf K hP hD hS hl
    rw [lp_X11_bestOf_6] at hf
    refine lv_iload_n hx hb dX11_bestOf_6 rfl (lv_at hl 3 rfl) ?_
    refine lv_sipush (v := (256 : Int32)) hx hb dX11_bestOf_7 (by decide) ?_
    refine lv_icmp_ge (tgt := 55) hx hb dX11_bestOf_10 (by decide) (fun c1 => ?_) (fun c1 => ?_)
    · have hf := ob_pos c1 hf
      obtain rfl := Option.some.inj hf
      exact K _ _ _ hP hD hS (lv_sub hl [1] rfl)
    · have hf := ob_neg c1 hf
      refine lv_iload_n hx hb dX11_bestOf_13 rfl (lv_at hl 3 rfl) ?_
      obtain ⟨q2, hq2, hf⟩ := ob_bind hf
      refine k_Si (wo := (wd_X11_bestOf cyI cyJ cyZ a_this a_sets a_papers a_worths a_sign a_hallSign a_chosen a_upper a_lower v_heaps v_seats v_signs v_hallMany v_chosenSet v_paidSeats v_rhoUp v_rhoBy v_breachGroup v_hallSign v_papers v_sets v_worths)) (As := [.int y3]) (rest := []) C (c_X11_bits l D cyI cyJ cyZ   y3 q2 hq2) cw60 hP hD hS [] [0, 1, 2, 3, 4] [0, 1, 2, 3, 4] rfl rfl rfl (by decide) rfl rfl hl.1 (Nat.le_of_ble_eq_true rfl) dX11_bestOf_14 ⟨Nat.zero_le _, Nat.zero_le _⟩ (fun H locs hP hD hS => ?_)
      refine lv_aload_n hx hb dX11_bestOf_17 rfl (lv_at hl 0 rfl) ?_
      refine va_get (D := D) (ci := 10) (v := .int v_seats) (C := RX11) (T := TX11) (N := 17) hx hb hts iX11 hown hK hP 0 rfl rfl 3 (by decide) fl16 (fun _ h9 => h9) rfl dX11_bestOf_18 ?_
      refine lv_icmp_ne (tgt := 49) hx hb dX11_bestOf_21 (by decide) (fun c3 => ?_) (fun c3 => ?_)
      · have hf := ob_neg c3 hf
        refine lv_iinc (v := (y3 + (1 : Int32))) (lv' := [(3, .int (y3 + (1 : Int32))), (0, .ref a_this), (1, .int y1), (2, .int y2)]) hx hb dX11_bestOf_49 hl (k := 3) rfl rfl (by decide) rfl (fun ls hl => ?_)
        refine lv_goto (tgt := 6) hx hb dX11_bestOf_52 (by decide) ?_
        exact ih y1 y2 (y3 + (1 : Int32)) _ _ _ _ hf K hP hD hS (lv_sub hl [1, 2, 3, 0] rfl)
      · have hf := ob_pos c3 hf
        refine lv_aload_n hx hb dX11_bestOf_24 rfl (lv_at hl 0 rfl) ?_
        refine lv_iload_n hx hb dX11_bestOf_25 rfl (lv_at hl 3 rfl) ?_
        obtain ⟨q4, hq4, hf⟩ := ob_bind hf
        refine k_Vi (wo := (wd_X11_bestOf cyI cyJ cyZ a_this a_sets a_papers a_worths a_sign a_hallSign a_chosen a_upper a_lower v_heaps v_seats v_signs v_hallMany v_chosenSet v_paidSeats v_rhoUp v_rhoBy v_breachGroup v_hallSign v_papers v_sets v_worths)) (As := [.int y3]) (rest := []) C (c_X11_worthOf l D cyI cyJ cyZ a_this a_sets a_papers a_worths a_sign a_hallSign a_chosen a_upper a_lower v_heaps v_seats v_signs v_hallMany v_chosenSet v_paidSeats v_rhoUp v_rhoBy v_breachGroup v_papers v_sets v_worths y3 q4 hq4) cw70 hP hD hS [0, 2, 3, 4] [1] [1, 0, 2, 3, 4] rfl rfl rfl (by decide) 0 (ci := 10) rfl rfl rfl rfl rfl hl.1 (Nat.le_of_ble_eq_true rfl) dX11_bestOf_26 ⟨Nat.zero_le _, Nat.zero_le _⟩ (fun H locs hP hD hS => ?_)
        refine lv_iload_n hx hb dX11_bestOf_29 rfl (lv_at hl 2 rfl) ?_
        refine lv_icmp_le (tgt := 49) hx hb dX11_bestOf_30 (by decide) (fun c5 => ?_) (fun c5 => ?_)
        · have hf := ob_pos c5 hf
          refine lv_iinc (v := (y3 + (1 : Int32))) (lv' := [(3, .int (y3 + (1 : Int32))), (0, .ref a_this), (1, .int y1), (2, .int y2)]) hx hb dX11_bestOf_49 hl (k := 3) rfl rfl (by decide) rfl (fun ls hl => ?_)
          refine lv_goto (tgt := 6) hx hb dX11_bestOf_52 (by decide) ?_
          exact ih y1 y2 (y3 + (1 : Int32)) _ _ _ _ hf K hP hD hS (lv_sub hl [1, 2, 3, 0] rfl)
        · have hf := ob_neg c5 hf
          refine lv_aload_n hx hb dX11_bestOf_33 rfl (lv_at hl 0 rfl) ?_
          refine lv_iload_n hx hb dX11_bestOf_34 rfl (lv_at hl 3 rfl) ?_
          obtain ⟨q6, hq6, hf⟩ := ob_bind hf
          refine k_Vi (wo := (wd_X11_bestOf cyI cyJ cyZ a_this a_sets a_papers a_worths a_sign a_hallSign a_chosen a_upper a_lower v_heaps v_seats v_signs v_hallMany v_chosenSet v_paidSeats v_rhoUp v_rhoBy v_breachGroup v_hallSign v_papers v_sets v_worths)) (As := [.int y3]) (rest := []) C (c_X11_barOf l D cyI cyJ cyZ a_this a_sets a_papers a_worths a_sign a_hallSign a_chosen a_upper a_lower v_heaps v_seats v_signs v_hallMany v_chosenSet v_paidSeats v_rhoUp v_rhoBy v_breachGroup v_hallSign y3 q6 hq6) cw67 hP hD hS [0, 1] [2, 3, 4] [3, 4, 0, 1, 2] rfl rfl rfl (by decide) 0 (ci := 10) rfl rfl rfl rfl rfl hl.1 (Nat.le_of_ble_eq_true rfl) dX11_bestOf_35 ⟨Nat.zero_le _, Nat.zero_le _⟩ (fun H locs hP hD hS => ?_)
          refine lv_if_ge (tgt := 49) hx hb dX11_bestOf_38 (by decide) (fun c7 => ?_) (fun c7 => ?_)
          · have hf := ob_pos c7 hf
            refine lv_iinc (v := (y3 + (1 : Int32))) (lv' := [(3, .int (y3 + (1 : Int32))), (0, .ref a_this), (1, .int y1), (2, .int y2)]) hx hb dX11_bestOf_49 hl (k := 3) rfl rfl (by decide) rfl (fun ls hl => ?_)
            refine lv_goto (tgt := 6) hx hb dX11_bestOf_52 (by decide) ?_
            exact ih y1 y2 (y3 + (1 : Int32)) _ _ _ _ hf K hP hD hS (lv_sub hl [1, 2, 3, 0] rfl)
          · have hf := ob_neg c7 hf
            refine lv_iload_n hx hb dX11_bestOf_41 rfl (lv_at hl 3 rfl) ?_
            refine lv_istore_n (lv' := [(1, .int y3), (0, .ref a_this), (2, .int y2), (3, .int y3)]) hx hb dX11_bestOf_42 rfl hl (by decide) rfl (fun ls hl => ?_)
            refine lv_aload_n hx hb dX11_bestOf_43 rfl (lv_at hl 1 rfl) ?_
            refine lv_iload_n hx hb dX11_bestOf_44 rfl (lv_at hl 3 rfl) ?_
            obtain ⟨q8, hq8, hf⟩ := ob_bind hf
            refine k_Vi (wo := (wd_X11_bestOf cyI cyJ cyZ a_this a_sets a_papers a_worths a_sign a_hallSign a_chosen a_upper a_lower v_heaps v_seats v_signs v_hallMany v_chosenSet v_paidSeats v_rhoUp v_rhoBy v_breachGroup v_hallSign v_papers v_sets v_worths)) (As := [.int y3]) (rest := []) C (c_X11_worthOf l D cyI cyJ cyZ a_this a_sets a_papers a_worths a_sign a_hallSign a_chosen a_upper a_lower v_heaps v_seats v_signs v_hallMany v_chosenSet v_paidSeats v_rhoUp v_rhoBy v_breachGroup v_papers v_sets v_worths y3 q8 hq8) cw70 hP hD hS [0, 2, 3, 4] [1] [1, 0, 2, 3, 4] rfl rfl rfl (by decide) 0 (ci := 10) rfl rfl rfl rfl rfl hl.1 (Nat.le_of_ble_eq_true rfl) dX11_bestOf_45 ⟨Nat.zero_le _, Nat.zero_le _⟩ (fun H locs hP hD hS => ?_)
            refine lv_istore_n (lv' := [(2, .int q8), (1, .int y3), (0, .ref a_this), (3, .int y3)]) hx hb dX11_bestOf_48 rfl hl (by decide) rfl (fun ls hl => ?_)
            refine lv_iinc (v := (y3 + (1 : Int32))) (lv' := [(3, .int (y3 + (1 : Int32))), (2, .int q8), (1, .int y3), (0, .ref a_this)]) hx hb dX11_bestOf_49 hl (k := 3) rfl rfl (by decide) rfl (fun ls hl => ?_)
            refine lv_goto (tgt := 6) hx hb dX11_bestOf_52 (by decide) ?_
            exact ih y3 q8 (y3 + (1 : Int32)) _ _ _ _ hf K hP hD hS (lv_sub hl [3, 2, 1, 0] rfl)
set_option maxHeartbeats 4000000 in
set_option maxRecDepth 100000 in
theorem c_X11_bestOf (l : Launch) (D : va_G) (cyI cyJ cyZ : ClassId) (a_this a_sets a_papers a_worths a_sign a_hallSign a_chosen a_upper a_lower : Nat) (v_heaps : Int32) (v_seats : Int32) (v_signs : Int32) (v_hallMany : Int32) (v_chosenSet : Int32) (v_paidSeats : Int32) (v_rhoUp : Int64) (v_rhoBy : Int64) (v_breachGroup : Int32) (v_hallSign : Nat → Int32) (v_papers : Nat → Int32) (v_sets : Nat → Int32) (v_worths : Nat → Int32) (q : Int32) (hf : f_X11_bestOf v_heaps v_seats v_hallMany v_hallSign v_papers v_sets v_worths = some q) : kMi l yX11_bestOf wsX11_bestOf rm_X11_bestOf D (kTy cyI cyJ cyZ) [.ref a_this] (wd_X11_bestOf cyI cyJ cyZ a_this a_sets a_papers a_worths a_sign a_hallSign a_chosen a_upper a_lower v_heaps v_seats v_signs v_hallMany v_chosenSet v_paidSeats v_rhoUp v_rhoBy v_breachGroup v_hallSign v_papers v_sets v_worths) (wd_X11_bestOf cyI cyJ cyZ a_this a_sets a_papers a_worths a_sign a_hallSign a_chosen a_upper a_lower v_heaps v_seats v_signs v_hallMany v_chosenSet v_paidSeats v_rhoUp v_rhoBy v_breachGroup v_hallSign v_papers v_sets v_worths) q := by
  refine kMi_of (cc := cX11_bestOf) (nL := 4) (own := RX11) (by decide) rfl rfl (Nat.le_of_ble_eq_true rfl) ?_
  intro p e s m below meth c A Q ls C hret hP hD hS hl
  have hl : lv_has ls 4 [(0, .ref a_this)] := hl
  unfold f_X11_bestOf at hf
  obtain ⟨hx, hb, hml, hown, hts, hK, hA⟩ := id C
  refine lv_iconst (v := (0 : Int32)) hx hb dX11_bestOf_0 (by decide) ?_
  refine lv_istore_n (lv' := [(1, .int (0 : Int32)), (0, .ref a_this)]) hx hb dX11_bestOf_1 rfl hl (by decide) rfl (fun ls hl => ?_)
  refine lv_iconst (v := (-1 : Int32)) hx hb dX11_bestOf_2 (by decide) ?_
  refine lv_istore_n (lv' := [(2, .int (-1 : Int32)), (1, .int (0 : Int32)), (0, .ref a_this)]) hx hb dX11_bestOf_3 rfl hl (by decide) rfl (fun ls hl => ?_)
  refine lv_iconst (v := (0 : Int32)) hx hb dX11_bestOf_4 (by decide) ?_
  refine lv_istore_n (lv' := [(3, .int (0 : Int32)), (2, .int (-1 : Int32)), (1, .int (0 : Int32)), (0, .ref a_this)]) hx hb dX11_bestOf_5 rfl hl (by decide) rfl (fun ls hl => ?_)
  obtain ⟨q9, hq9, hf⟩ := ob_bind hf
  refine wl_X11_bestOf_6 C FU (0 : Int32) (-1 : Int32) (0 : Int32) _ _ _ _ hq9 (fun H locs ls hP hD hS hl => ?_) hP hD hS (lv_sub hl [3, 2, 1, 0] rfl)
  refine lv_iload_n hx hb dX11_bestOf_55 rfl (lv_at hl 0 rfl) ?_
  obtain rfl := Option.some.inj hf
  exact hret _ _ _ _ dX11_bestOf_56 hP hD hS
abbrev rm_X11_mend : Room := { frames := 2, cells := 0, slots := 0, locals := 47 }
abbrev wd_X11_mend (cyI cyJ cyZ : ClassId) (a_this a_sets a_papers a_worths a_sign a_hallSign a_chosen a_upper a_lower : Nat) (v_heaps : Int32) (v_seats : Int32) (v_signs : Int32) (v_hallMany : Int32) (v_chosenSet : Int32) (v_paidSeats : Int32) (v_rhoUp : Int64) (v_rhoBy : Int64) (v_breachGroup : Int32) (v_papers : Nat → Int32) (v_sets : Nat → Int32) (v_worths : Nat → Int32) : va_W := [(a_this, .inr (10, [.int v_heaps, .ref a_sets, .ref a_papers, .int v_seats, .ref a_worths, .int v_signs, .ref a_sign, .int v_hallMany, .ref a_hallSign, .ref a_chosen, .int v_chosenSet, .int v_paidSeats, .ref a_upper, .ref a_lower, .long v_rhoUp, .long v_rhoBy, .int v_breachGroup])), (a_papers, .inl (cyI, 7, .inl v_papers)), (a_sets, .inl (cyI, 7, .inl v_sets)), (a_worths, .inl (cyI, 4, .inl v_worths))]
def lp_X11_mend_22 (y3 : Int32) (v_heaps : Int32) (v_chosenSet : Int32) (v_papers : Nat → Int32) (v_sets : Nat → Int32) (v_worths : Nat → Int32) : Nat → Int32 → Int32 → Option (Int32)
  | 0, _, _ => none
  | n + 1, y2, y4 => (if (8 : Int32) ≤ y4 then some y2 else (f_X11_isLeft y3 v_chosenSet).bind (fun q4 => (if q4 = 0 then (f_X11_isLeft y4 v_chosenSet).bind (fun q6 => (if q6 = 0 then lp_X11_mend_22 y3 v_heaps v_chosenSet v_papers v_sets v_worths n y2 (y4 + (1 : Int32)) else (f_X11_worthOf ((v_chosenSet &&& (((1 : Int32) <<< (y3 &&& 31)) ^^^ (-1 : Int32))) ||| ((1 : Int32) <<< (y4 &&& 31))) v_heaps v_papers v_sets v_worths).bind (fun q8 => (f_X11_worthOf y2 v_heaps v_papers v_sets v_worths).bind (fun q9 => (if q8 ≤ q9 then lp_X11_mend_22 y3 v_heaps v_chosenSet v_papers v_sets v_worths n y2 (y4 + (1 : Int32)) else lp_X11_mend_22 y3 v_heaps v_chosenSet v_papers v_sets v_worths n ((v_chosenSet &&& (((1 : Int32) <<< (y3 &&& 31)) ^^^ (-1 : Int32))) ||| ((1 : Int32) <<< (y4 &&& 31))) (y4 + (1 : Int32))))))) else some y2)))
def lp_X11_mend_13 (v_heaps : Int32) (v_chosenSet : Int32) (v_papers : Nat → Int32) (v_sets : Nat → Int32) (v_worths : Nat → Int32) : Nat → Int32 → Int32 → Option (Int32)
  | 0, _, _ => none
  | n + 1, y2, y3 => (if (8 : Int32) ≤ y3 then some y2 else (lp_X11_mend_22 y3 v_heaps v_chosenSet v_papers v_sets v_worths FU y2 (0 : Int32)).bind (fun q11 => lp_X11_mend_13 v_heaps v_chosenSet v_papers v_sets v_worths n q11 (y3 + (1 : Int32))))
def lp_X11_mend_2 (v_heaps : Int32) (v_papers : Nat → Int32) (v_sets : Nat → Int32) (v_worths : Nat → Int32) : Nat → Int32 → Int32 → Option (Int32)
  | 0, _, _ => none
  | n + 1, y1, v_chosenSet => (if y1 = 0 then some v_chosenSet else (lp_X11_mend_13 v_heaps v_chosenSet v_papers v_sets v_worths FU v_chosenSet (0 : Int32)).bind (fun q12 => (if q12 = v_chosenSet then lp_X11_mend_2 v_heaps v_papers v_sets v_worths n (0 : Int32) q12 else lp_X11_mend_2 v_heaps v_papers v_sets v_worths n (1 : Int32) q12)))
def f_X11_mend (v_heaps : Int32) (v_chosenSet : Int32) (v_papers : Nat → Int32) (v_sets : Nat → Int32) (v_worths : Nat → Int32) : Option (Int32) := (lp_X11_mend_2 v_heaps v_papers v_sets v_worths FU (1 : Int32) v_chosenSet).bind (fun q14 => some q14)
set_option maxHeartbeats 4000000 in
set_option maxRecDepth 100000 in
theorem wl_X11_mend_22 {p : Program} {l : Launch} {e : Env} {s : State} {m : MethodId} {args : Array Value} {below : List Frame} {meth : Method} {c : Code} {A : Nat → Prop} {Q : State → Prop} {D : va_G} {cyI cyJ cyZ : ClassId} {a_this a_sets a_papers a_worths a_sign a_hallSign a_chosen a_upper a_lower : Nat} {y3 : Int32} {v_heaps : Int32} {v_seats : Int32} {v_signs : Int32} {v_hallMany : Int32} {v_chosenSet : Int32} {v_paidSeats : Int32} {v_rhoUp : Int64} {v_rhoBy : Int64} {v_breachGroup : Int32} {v_papers : Nat → Int32} {v_sets : Nat → Int32} {v_worths : Nat → Int32} (C : kC p s m args c cX11_mend 6 RX11 wsX11_mend D (kTy cyI cyJ cyZ) A) :
    ∀ (n : Nat) (y2 : Int32) (y4 : Int32) (q : Int32) (H : Heap) (locs : List Loc) (ls : Array Slot), lp_X11_mend_22 y3 v_heaps v_chosenSet v_papers v_sets v_worths n y2 y4 = some q → (∀ (H : Heap) (locs : List Loc) (ls : Array Slot), va_P D vwCl (wd_X11_mend cyI cyJ cyZ a_this a_sets a_papers a_worths a_sign a_hallSign a_chosen a_upper a_lower v_heaps v_seats v_signs v_hallMany v_chosenSet v_paidSeats v_rhoUp v_rhoBy v_breachGroup v_papers v_sets v_worths) H → va_D A (wd_X11_mend cyI cyJ cyZ a_this a_sets a_papers a_worths a_sign a_hallSign a_chosen a_upper a_lower v_heaps v_seats v_signs v_hallMany v_chosenSet v_paidSeats v_rhoUp v_rhoBy v_breachGroup v_papers v_sets v_worths) → va_S A s.heap H locs → lv_has ls 6 [(0, .ref a_this), (2, .int q), (3, .int y3)] → W p l e rm_X11_mend s m args below meth c H locs 0 0 Q (F0 m 90 ls [])) → va_P D vwCl (wd_X11_mend cyI cyJ cyZ a_this a_sets a_papers a_worths a_sign a_hallSign a_chosen a_upper a_lower v_heaps v_seats v_signs v_hallMany v_chosenSet v_paidSeats v_rhoUp v_rhoBy v_breachGroup v_papers v_sets v_worths) H → va_D A (wd_X11_mend cyI cyJ cyZ a_this a_sets a_papers a_worths a_sign a_hallSign a_chosen a_upper a_lower v_heaps v_seats v_signs v_hallMany v_chosenSet v_paidSeats v_rhoUp v_rhoBy v_breachGroup v_papers v_sets v_worths) → va_S A s.heap H locs → lv_has ls 6 [(0, .ref a_this), (2, .int y2), (3, .int y3), (4, .int y4)] → W p l e rm_X11_mend s m args below meth c H locs 0 0 Q (F0 m 22 ls []) := by
  obtain ⟨hx, hb, hml, hown, hts, hK, hA⟩ := id C
  have iX11 : ∀ w ∈ u_ws RX11 TX11 17, w ∈ wsX11_mend := by decide +kernel
  have fl76 := hts (.fieldLink RX11 76 "FairSeatsModel" "chosenSet" "I") (by decide +kernel)
  have cw70 := cwV (R := rm_X11_mend) (rm := rm_X11_worthOf) 1 hts gX11_mend_X11_worthOf rfl rfl rfl (by decide +kernel) ⟨Nat.le_of_ble_eq_true rfl, Nat.le_of_ble_eq_true rfl⟩
  have cw79 := cwV (R := rm_X11_mend) (rm := rm_X11_isLeft) 1 hts gX11_mend_X11_isLeft rfl rfl rfl (by decide +kernel) ⟨Nat.le_of_ble_eq_true rfl, Nat.le_of_ble_eq_true rfl⟩
  intro n
  induction n with
  | zero =>
    intro y2 y4 q H locs ls hf K hP hD hS hl
    rw [lp_X11_mend_22] at hf
    cases hf
  | succ n ih =>
    intro y2 y4 q H locs ls hf K hP hD hS hl
    rw [lp_X11_mend_22] at hf
    refine lv_iload hx hb dX11_mend_22 (lv_at hl 3 rfl) ?_
    refine lv_bipush (v := (8 : Int32)) hx hb dX11_mend_24 (by decide) ?_
    refine lv_icmp_ge (tgt := 90) hx hb dX11_mend_26 (by decide) (fun c3 => ?_) (fun c3 => ?_)
    · have hf := ob_pos c3 hf
      obtain rfl := Option.some.inj hf
      exact K _ _ _ hP hD hS (lv_sub hl [0, 1, 2] rfl)
    · have hf := ob_neg c3 hf
      refine lv_aload_n hx hb dX11_mend_29 rfl (lv_at hl 0 rfl) ?_
      refine lv_iload_n hx hb dX11_mend_30 rfl (lv_at hl 2 rfl) ?_
      obtain ⟨q4, hq4, hf⟩ := ob_bind hf
      refine k_Vz (wo := (wd_X11_mend cyI cyJ cyZ a_this a_sets a_papers a_worths a_sign a_hallSign a_chosen a_upper a_lower v_heaps v_seats v_signs v_hallMany v_chosenSet v_paidSeats v_rhoUp v_rhoBy v_breachGroup v_papers v_sets v_worths)) (As := [.int y3]) (rest := []) C (c_X11_isLeft l D cyI cyJ cyZ a_this a_sets a_papers a_worths a_sign a_hallSign a_chosen a_upper a_lower v_heaps v_seats v_signs v_hallMany v_chosenSet v_paidSeats v_rhoUp v_rhoBy v_breachGroup y3 q4 hq4) cw79 hP hD hS [0] [1, 2, 3] [3, 0, 1, 2] rfl rfl rfl (by decide) 0 (ci := 10) rfl rfl rfl rfl rfl hl.1 (Nat.le_of_ble_eq_true rfl) dX11_mend_31 ⟨Nat.zero_le _, Nat.zero_le _⟩ (fun H locs zq4 hP hD hS => ?_)
      refine lv_if_ne (tgt := 90) hx hb dX11_mend_34 (by decide) (fun c5 => ?_) (fun c5 => ?_)
      · have hf := ob_neg c5 hf
        obtain rfl := Option.some.inj hf
        exact K _ _ _ hP hD hS (lv_sub hl [0, 1, 2] rfl)
      · have hf := ob_pos c5 hf
        refine lv_aload_n hx hb dX11_mend_37 rfl (lv_at hl 0 rfl) ?_
        refine va_get (D := D) (ci := 10) (v := .int v_chosenSet) (C := RX11) (T := TX11) (N := 17) hx hb hts iX11 hown hK hP 0 rfl rfl 10 (by decide) fl76 (fun _ h9 => h9) rfl dX11_mend_38 ?_
        refine lv_iconst (v := (1 : Int32)) hx hb dX11_mend_41 (by decide) ?_
        refine lv_iload_n hx hb dX11_mend_42 rfl (lv_at hl 2 rfl) ?_
        refine lv_ishl hx hb dX11_mend_43 ?_
        refine lv_iconst (v := (-1 : Int32)) hx hb dX11_mend_44 (by decide) ?_
        refine lv_ixor hx hb dX11_mend_45 ?_
        refine lv_iand hx hb dX11_mend_46 ?_
        refine lv_iconst (v := (1 : Int32)) hx hb dX11_mend_47 (by decide) ?_
        refine lv_iload hx hb dX11_mend_48 (lv_at hl 3 rfl) ?_
        refine lv_ishl hx hb dX11_mend_50 ?_
        refine lv_ior hx hb dX11_mend_51 ?_
        refine lv_istore (lv' := [(5, .int ((v_chosenSet &&& (((1 : Int32) <<< (y3 &&& 31)) ^^^ (-1 : Int32))) ||| ((1 : Int32) <<< (y4 &&& 31)))), (0, .ref a_this), (2, .int y2), (3, .int y3), (4, .int y4)]) hx hb dX11_mend_52 hl (by decide) rfl (fun ls hl => ?_)
        refine lv_aload_n hx hb dX11_mend_54 rfl (lv_at hl 1 rfl) ?_
        refine lv_iload hx hb dX11_mend_55 (lv_at hl 4 rfl) ?_
        obtain ⟨q6, hq6, hf⟩ := ob_bind hf
        refine k_Vz (wo := (wd_X11_mend cyI cyJ cyZ a_this a_sets a_papers a_worths a_sign a_hallSign a_chosen a_upper a_lower v_heaps v_seats v_signs v_hallMany v_chosenSet v_paidSeats v_rhoUp v_rhoBy v_breachGroup v_papers v_sets v_worths)) (As := [.int y4]) (rest := []) C (c_X11_isLeft l D cyI cyJ cyZ a_this a_sets a_papers a_worths a_sign a_hallSign a_chosen a_upper a_lower v_heaps v_seats v_signs v_hallMany v_chosenSet v_paidSeats v_rhoUp v_rhoBy v_breachGroup y4 q6 hq6) cw79 hP hD hS [0] [1, 2, 3] [3, 0, 1, 2] rfl rfl rfl (by decide) 0 (ci := 10) rfl rfl rfl rfl rfl hl.1 (Nat.le_of_ble_eq_true rfl) dX11_mend_57 ⟨Nat.zero_le _, Nat.zero_le _⟩ (fun H locs zq6 hP hD hS => ?_)
        refine lv_if_eq (tgt := 82) hx hb dX11_mend_60 (by decide) (fun c7 => ?_) (fun c7 => ?_)
        · have hf := ob_pos c7 hf
          refine lv_iload_n hx hb dX11_mend_82 rfl (lv_at hl 2 rfl) ?_
          refine lv_istore_n (lv' := [(2, .int y2), (5, .int ((v_chosenSet &&& (((1 : Int32) <<< (y3 &&& 31)) ^^^ (-1 : Int32))) ||| ((1 : Int32) <<< (y4 &&& 31)))), (0, .ref a_this), (3, .int y3), (4, .int y4)]) hx hb dX11_mend_83 rfl hl (by decide) rfl (fun ls hl => ?_)
          refine lv_iinc (v := (y4 + (1 : Int32))) (lv' := [(4, .int (y4 + (1 : Int32))), (2, .int y2), (5, .int ((v_chosenSet &&& (((1 : Int32) <<< (y3 &&& 31)) ^^^ (-1 : Int32))) ||| ((1 : Int32) <<< (y4 &&& 31)))), (0, .ref a_this), (3, .int y3)]) hx hb dX11_mend_84 hl (k := 4) rfl rfl (by decide) rfl (fun ls hl => ?_)
          refine lv_goto (tgt := 22) hx hb dX11_mend_87 (by decide) ?_
          exact ih y2 (y4 + (1 : Int32)) _ _ _ _ hf K hP hD hS (lv_sub hl [3, 1, 4, 0] rfl)
        · have hf := ob_neg c7 hf
          refine lv_aload_n hx hb dX11_mend_63 rfl (lv_at hl 1 rfl) ?_
          refine lv_iload hx hb dX11_mend_64 (lv_at hl 0 rfl) ?_
          obtain ⟨q8, hq8, hf⟩ := ob_bind hf
          refine k_Vi (wo := (wd_X11_mend cyI cyJ cyZ a_this a_sets a_papers a_worths a_sign a_hallSign a_chosen a_upper a_lower v_heaps v_seats v_signs v_hallMany v_chosenSet v_paidSeats v_rhoUp v_rhoBy v_breachGroup v_papers v_sets v_worths)) (As := [.int ((v_chosenSet &&& (((1 : Int32) <<< (y3 &&& 31)) ^^^ (-1 : Int32))) ||| ((1 : Int32) <<< (y4 &&& 31)))]) (rest := []) C (c_X11_worthOf l D cyI cyJ cyZ a_this a_sets a_papers a_worths a_sign a_hallSign a_chosen a_upper a_lower v_heaps v_seats v_signs v_hallMany v_chosenSet v_paidSeats v_rhoUp v_rhoBy v_breachGroup v_papers v_sets v_worths ((v_chosenSet &&& (((1 : Int32) <<< (y3 &&& 31)) ^^^ (-1 : Int32))) ||| ((1 : Int32) <<< (y4 &&& 31))) q8 hq8) cw70 hP hD hS [0, 1, 2, 3] [] [0, 1, 2, 3] rfl rfl rfl (by decide) 0 (ci := 10) rfl rfl rfl rfl rfl hl.1 (Nat.le_of_ble_eq_true rfl) dX11_mend_66 ⟨Nat.zero_le _, Nat.zero_le _⟩ (fun H locs hP hD hS => ?_)
          refine lv_aload_n hx hb dX11_mend_69 rfl (lv_at hl 1 rfl) ?_
          refine lv_iload_n hx hb dX11_mend_70 rfl (lv_at hl 2 rfl) ?_
          obtain ⟨q9, hq9, hf⟩ := ob_bind hf
          refine k_Vi (wo := (wd_X11_mend cyI cyJ cyZ a_this a_sets a_papers a_worths a_sign a_hallSign a_chosen a_upper a_lower v_heaps v_seats v_signs v_hallMany v_chosenSet v_paidSeats v_rhoUp v_rhoBy v_breachGroup v_papers v_sets v_worths)) (As := [.int y2]) (rest := [.int q8]) C (c_X11_worthOf l D cyI cyJ cyZ a_this a_sets a_papers a_worths a_sign a_hallSign a_chosen a_upper a_lower v_heaps v_seats v_signs v_hallMany v_chosenSet v_paidSeats v_rhoUp v_rhoBy v_breachGroup v_papers v_sets v_worths y2 q9 hq9) cw70 hP hD hS [0, 1, 2, 3] [] [0, 1, 2, 3] rfl rfl rfl (by decide) 0 (ci := 10) rfl rfl rfl rfl rfl hl.1 (Nat.le_of_ble_eq_true rfl) dX11_mend_71 ⟨Nat.zero_le _, Nat.zero_le _⟩ (fun H locs hP hD hS => ?_)
          refine lv_icmp_le (tgt := 82) hx hb dX11_mend_74 (by decide) (fun c10 => ?_) (fun c10 => ?_)
          · have hf := ob_pos c10 hf
            refine lv_iload_n hx hb dX11_mend_82 rfl (lv_at hl 2 rfl) ?_
            refine lv_istore_n (lv' := [(2, .int y2), (5, .int ((v_chosenSet &&& (((1 : Int32) <<< (y3 &&& 31)) ^^^ (-1 : Int32))) ||| ((1 : Int32) <<< (y4 &&& 31)))), (0, .ref a_this), (3, .int y3), (4, .int y4)]) hx hb dX11_mend_83 rfl hl (by decide) rfl (fun ls hl => ?_)
            refine lv_iinc (v := (y4 + (1 : Int32))) (lv' := [(4, .int (y4 + (1 : Int32))), (2, .int y2), (5, .int ((v_chosenSet &&& (((1 : Int32) <<< (y3 &&& 31)) ^^^ (-1 : Int32))) ||| ((1 : Int32) <<< (y4 &&& 31)))), (0, .ref a_this), (3, .int y3)]) hx hb dX11_mend_84 hl (k := 4) rfl rfl (by decide) rfl (fun ls hl => ?_)
            refine lv_goto (tgt := 22) hx hb dX11_mend_87 (by decide) ?_
            exact ih y2 (y4 + (1 : Int32)) _ _ _ _ hf K hP hD hS (lv_sub hl [3, 1, 4, 0] rfl)
          · have hf := ob_neg c10 hf
            refine lv_iload hx hb dX11_mend_77 (lv_at hl 0 rfl) ?_
            refine lv_goto (tgt := 83) hx hb dX11_mend_79 (by decide) ?_
            refine lv_istore_n (lv' := [(2, .int ((v_chosenSet &&& (((1 : Int32) <<< (y3 &&& 31)) ^^^ (-1 : Int32))) ||| ((1 : Int32) <<< (y4 &&& 31)))), (5, .int ((v_chosenSet &&& (((1 : Int32) <<< (y3 &&& 31)) ^^^ (-1 : Int32))) ||| ((1 : Int32) <<< (y4 &&& 31)))), (0, .ref a_this), (3, .int y3), (4, .int y4)]) hx hb dX11_mend_83 rfl hl (by decide) rfl (fun ls hl => ?_)
            refine lv_iinc (v := (y4 + (1 : Int32))) (lv' := [(4, .int (y4 + (1 : Int32))), (2, .int ((v_chosenSet &&& (((1 : Int32) <<< (y3 &&& 31)) ^^^ (-1 : Int32))) ||| ((1 : Int32) <<< (y4 &&& 31)))), (5, .int ((v_chosenSet &&& (((1 : Int32) <<< (y3 &&& 31)) ^^^ (-1 : Int32))) ||| ((1 : Int32) <<< (y4 &&& 31)))), (0, .ref a_this), (3, .int y3)]) hx hb dX11_mend_84 hl (k := 4) rfl rfl (by decide) rfl (fun ls hl => ?_)
            refine lv_goto (tgt := 22) hx hb dX11_mend_87 (by decide) ?_
            exact ih ((v_chosenSet &&& (((1 : Int32) <<< (y3 &&& 31)) ^^^ (-1 : Int32))) ||| ((1 : Int32) <<< (y4 &&& 31))) (y4 + (1 : Int32)) _ _ _ _ hf K hP hD hS (lv_sub hl [3, 1, 4, 0] rfl)
set_option maxHeartbeats 4000000 in
set_option maxRecDepth 100000 in
theorem wl_X11_mend_13 {p : Program} {l : Launch} {e : Env} {s : State} {m : MethodId} {args : Array Value} {below : List Frame} {meth : Method} {c : Code} {A : Nat → Prop} {Q : State → Prop} {D : va_G} {cyI cyJ cyZ : ClassId} {a_this a_sets a_papers a_worths a_sign a_hallSign a_chosen a_upper a_lower : Nat} {v_heaps : Int32} {v_seats : Int32} {v_signs : Int32} {v_hallMany : Int32} {v_chosenSet : Int32} {v_paidSeats : Int32} {v_rhoUp : Int64} {v_rhoBy : Int64} {v_breachGroup : Int32} {v_papers : Nat → Int32} {v_sets : Nat → Int32} {v_worths : Nat → Int32} (C : kC p s m args c cX11_mend 6 RX11 wsX11_mend D (kTy cyI cyJ cyZ) A) :
    ∀ (n : Nat) (y2 : Int32) (y3 : Int32) (q : Int32) (H : Heap) (locs : List Loc) (ls : Array Slot), lp_X11_mend_13 v_heaps v_chosenSet v_papers v_sets v_worths n y2 y3 = some q → (∀ (H : Heap) (locs : List Loc) (ls : Array Slot), va_P D vwCl (wd_X11_mend cyI cyJ cyZ a_this a_sets a_papers a_worths a_sign a_hallSign a_chosen a_upper a_lower v_heaps v_seats v_signs v_hallMany v_chosenSet v_paidSeats v_rhoUp v_rhoBy v_breachGroup v_papers v_sets v_worths) H → va_D A (wd_X11_mend cyI cyJ cyZ a_this a_sets a_papers a_worths a_sign a_hallSign a_chosen a_upper a_lower v_heaps v_seats v_signs v_hallMany v_chosenSet v_paidSeats v_rhoUp v_rhoBy v_breachGroup v_papers v_sets v_worths) → va_S A s.heap H locs → lv_has ls 6 [(0, .ref a_this), (2, .int q)] → W p l e rm_X11_mend s m args below meth c H locs 0 0 Q (F0 m 96 ls [])) → va_P D vwCl (wd_X11_mend cyI cyJ cyZ a_this a_sets a_papers a_worths a_sign a_hallSign a_chosen a_upper a_lower v_heaps v_seats v_signs v_hallMany v_chosenSet v_paidSeats v_rhoUp v_rhoBy v_breachGroup v_papers v_sets v_worths) H → va_D A (wd_X11_mend cyI cyJ cyZ a_this a_sets a_papers a_worths a_sign a_hallSign a_chosen a_upper a_lower v_heaps v_seats v_signs v_hallMany v_chosenSet v_paidSeats v_rhoUp v_rhoBy v_breachGroup v_papers v_sets v_worths) → va_S A s.heap H locs → lv_has ls 6 [(0, .ref a_this), (2, .int y2), (3, .int y3)] → W p l e rm_X11_mend s m args below meth c H locs 0 0 Q (F0 m 13 ls []) := by
  obtain ⟨hx, hb, hml, hown, hts, hK, hA⟩ := id C
  intro n
  induction n with
  | zero =>
    intro y2 y3 q H locs ls hf K hP hD hS hl
    rw [lp_X11_mend_13] at hf
    cases hf
  | succ n ih =>
    intro y2 y3 q H locs ls hf K hP hD hS hl
    rw [lp_X11_mend_13] at hf
    refine lv_iload_n hx hb dX11_mend_13 rfl (lv_at hl 2 rfl) ?_
    refine lv_bipush (v := (8 : Int32)) hx hb dX11_mend_14 (by decide) ?_
    refine lv_icmp_ge (tgt := 96) hx hb dX11_mend_16 (by decide) (fun c2 => ?_) (fun c2 => ?_)
    · have hf := ob_pos c2 hf
      obtain rfl := Option.some.inj hf
      exact K _ _ _ hP hD hS (lv_sub hl [0, 1] rfl)
    · have hf := ob_neg c2 hf
      refine lv_iconst (v := (0 : Int32)) hx hb dX11_mend_19 (by decide) ?_
      refine lv_istore (lv' := [(4, .int (0 : Int32)), (0, .ref a_this), (2, .int y2), (3, .int y3)]) hx hb dX11_mend_20 hl (by decide) rfl (fun ls hl => ?_)
      obtain ⟨q11, hq11, hf⟩ := ob_bind hf
      refine wl_X11_mend_22 C FU y2 (0 : Int32) _ _ _ _ hq11 (fun H locs ls hP hD hS hl => ?_) hP hD hS (lv_sub hl [1, 2, 3, 0] rfl)
      refine lv_iinc (v := (y3 + (1 : Int32))) (lv' := [(3, .int (y3 + (1 : Int32))), (0, .ref a_this), (2, .int q11)]) hx hb dX11_mend_90 hl (k := 2) rfl rfl (by decide) rfl (fun ls hl => ?_)
      refine lv_goto (tgt := 13) hx hb dX11_mend_93 (by decide) ?_
      exact ih q11 (y3 + (1 : Int32)) _ _ _ _ hf K hP hD hS (lv_sub hl [1, 2, 0] rfl)
set_option maxHeartbeats 4000000 in
set_option maxRecDepth 100000 in
theorem wl_X11_mend_2 {p : Program} {l : Launch} {e : Env} {s : State} {m : MethodId} {args : Array Value} {below : List Frame} {meth : Method} {c : Code} {A : Nat → Prop} {Q : State → Prop} {D : va_G} {cyI cyJ cyZ : ClassId} {a_this a_sets a_papers a_worths a_sign a_hallSign a_chosen a_upper a_lower : Nat} {v_heaps : Int32} {v_seats : Int32} {v_signs : Int32} {v_hallMany : Int32} {v_paidSeats : Int32} {v_rhoUp : Int64} {v_rhoBy : Int64} {v_breachGroup : Int32} {v_papers : Nat → Int32} {v_sets : Nat → Int32} {v_worths : Nat → Int32} (C : kC p s m args c cX11_mend 6 RX11 wsX11_mend D (kTy cyI cyJ cyZ) A) :
    ∀ (n : Nat) (y1 : Int32) (v_chosenSet : Int32) (q : Int32) (H : Heap) (locs : List Loc) (ls : Array Slot), lp_X11_mend_2 v_heaps v_papers v_sets v_worths n y1 v_chosenSet = some q → (∀ (H : Heap) (locs : List Loc) (ls : Array Slot), va_P D vwCl (wd_X11_mend cyI cyJ cyZ a_this a_sets a_papers a_worths a_sign a_hallSign a_chosen a_upper a_lower v_heaps v_seats v_signs v_hallMany q v_paidSeats v_rhoUp v_rhoBy v_breachGroup v_papers v_sets v_worths) H → va_D A (wd_X11_mend cyI cyJ cyZ a_this a_sets a_papers a_worths a_sign a_hallSign a_chosen a_upper a_lower v_heaps v_seats v_signs v_hallMany q v_paidSeats v_rhoUp v_rhoBy v_breachGroup v_papers v_sets v_worths) → va_S A s.heap H locs → lv_has ls 6 [] → W p l e rm_X11_mend s m args below meth c H locs 0 0 Q (F0 m 118 ls [])) → va_P D vwCl (wd_X11_mend cyI cyJ cyZ a_this a_sets a_papers a_worths a_sign a_hallSign a_chosen a_upper a_lower v_heaps v_seats v_signs v_hallMany v_chosenSet v_paidSeats v_rhoUp v_rhoBy v_breachGroup v_papers v_sets v_worths) H → va_D A (wd_X11_mend cyI cyJ cyZ a_this a_sets a_papers a_worths a_sign a_hallSign a_chosen a_upper a_lower v_heaps v_seats v_signs v_hallMany v_chosenSet v_paidSeats v_rhoUp v_rhoBy v_breachGroup v_papers v_sets v_worths) → va_S A s.heap H locs → lv_has ls 6 [(0, .ref a_this), (1, .int y1)] → W p l e rm_X11_mend s m args below meth c H locs 0 0 Q (F0 m 2 ls []) := by
  obtain ⟨hx, hb, hml, hown, hts, hK, hA⟩ := id C
  have iX11 : ∀ w ∈ u_ws RX11 TX11 17, w ∈ wsX11_mend := by decide +kernel
  have fl76 := hts (.fieldLink RX11 76 "FairSeatsModel" "chosenSet" "I") (by decide +kernel)
  intro n
  induction n with
  | zero =>
    intro y1 v_chosenSet q H locs ls hf K hP hD hS hl
    rw [lp_X11_mend_2] at hf
    cases hf
  | succ n ih =>
    intro y1 v_chosenSet q H locs ls hf K hP hD hS hl
    rw [lp_X11_mend_2] at hf
    refine lv_iload_n hx hb dX11_mend_2 rfl (lv_at hl 1 rfl) ?_
    refine lv_if_eq (tgt := 118) hx hb dX11_mend_3 (by decide) (fun c1 => ?_) (fun c1 => ?_)
    · have hf := ob_pos c1 hf
      obtain rfl := Option.some.inj hf
      exact K _ _ _ hP hD hS (lv_sub hl [] rfl)
    · have hf := ob_neg c1 hf
      refine lv_aload_n hx hb dX11_mend_6 rfl (lv_at hl 0 rfl) ?_
      refine va_get (D := D) (ci := 10) (v := .int v_chosenSet) (C := RX11) (T := TX11) (N := 17) hx hb hts iX11 hown hK hP 0 rfl rfl 10 (by decide) fl76 (fun _ h9 => h9) rfl dX11_mend_7 ?_
      refine lv_istore_n (lv' := [(2, .int v_chosenSet), (0, .ref a_this), (1, .int y1)]) hx hb dX11_mend_10 rfl hl (by decide) rfl (fun ls hl => ?_)
      refine lv_iconst (v := (0 : Int32)) hx hb dX11_mend_11 (by decide) ?_
      refine lv_istore_n (lv' := [(3, .int (0 : Int32)), (2, .int v_chosenSet), (0, .ref a_this), (1, .int y1)]) hx hb dX11_mend_12 rfl hl (by decide) rfl (fun ls hl => ?_)
      obtain ⟨q12, hq12, hf⟩ := ob_bind hf
      refine wl_X11_mend_13 C FU v_chosenSet (0 : Int32) _ _ _ _ hq12 (fun H locs ls hP hD hS hl => ?_) hP hD hS (lv_sub hl [2, 1, 0] rfl)
      refine lv_iload_n hx hb dX11_mend_96 rfl (lv_at hl 1 rfl) ?_
      refine lv_aload_n hx hb dX11_mend_97 rfl (lv_at hl 0 rfl) ?_
      refine va_get (D := D) (ci := 10) (v := .int v_chosenSet) (C := RX11) (T := TX11) (N := 17) hx hb hts iX11 hown hK hP 0 rfl rfl 10 (by decide) fl76 (fun _ h9 => h9) rfl dX11_mend_98 ?_
      refine lv_icmp_eq (tgt := 108) hx hb dX11_mend_101 (by decide) (fun c13 => ?_) (fun c13 => ?_)
      · have hf := ob_pos c13 hf
        refine lv_iconst (v := (0 : Int32)) hx hb dX11_mend_108 (by decide) ?_
        refine lv_istore_n (lv' := [(1, .int (0 : Int32)), (0, .ref a_this), (2, .int q12)]) hx hb dX11_mend_109 rfl hl (by decide) rfl (fun ls hl => ?_)
        refine lv_aload_n hx hb dX11_mend_110 rfl (lv_at hl 1 rfl) ?_
        refine lv_iload_n hx hb dX11_mend_111 rfl (lv_at hl 2 rfl) ?_
        refine va_put (D := D) (ci := 10) (v := .int q12) (ty := .int) (C := RX11) (T := TX11) (N := 17) hx hb hts iX11 tyX11 tyX11_ok nmX11 hown hK hP hD hS 0 rfl rfl 10 (by decide) fl76 (fun _ h9 => h9) rfl (by decide +kernel) rfl rfl (Nat.le_of_ble_eq_true rfl) dX11_mend_112 (fun H locs hP hD hS => ?_)
        have hP : va_P D vwCl (wd_X11_mend cyI cyJ cyZ a_this a_sets a_papers a_worths a_sign a_hallSign a_chosen a_upper a_lower v_heaps v_seats v_signs v_hallMany q12 v_paidSeats v_rhoUp v_rhoBy v_breachGroup v_papers v_sets v_worths) H := hP
        have hD : va_D A (wd_X11_mend cyI cyJ cyZ a_this a_sets a_papers a_worths a_sign a_hallSign a_chosen a_upper a_lower v_heaps v_seats v_signs v_hallMany q12 v_paidSeats v_rhoUp v_rhoBy v_breachGroup v_papers v_sets v_worths) := hD
        refine lv_goto (tgt := 2) hx hb dX11_mend_115 (by decide) ?_
        exact ih (0 : Int32) q12 _ _ _ _ hf K hP hD hS (lv_sub hl [1, 0] rfl)
      · have hf := ob_neg c13 hf
        refine lv_iconst (v := (1 : Int32)) hx hb dX11_mend_104 (by decide) ?_
        refine lv_goto (tgt := 109) hx hb dX11_mend_105 (by decide) ?_
        refine lv_istore_n (lv' := [(1, .int (1 : Int32)), (0, .ref a_this), (2, .int q12)]) hx hb dX11_mend_109 rfl hl (by decide) rfl (fun ls hl => ?_)
        refine lv_aload_n hx hb dX11_mend_110 rfl (lv_at hl 1 rfl) ?_
        refine lv_iload_n hx hb dX11_mend_111 rfl (lv_at hl 2 rfl) ?_
        refine va_put (D := D) (ci := 10) (v := .int q12) (ty := .int) (C := RX11) (T := TX11) (N := 17) hx hb hts iX11 tyX11 tyX11_ok nmX11 hown hK hP hD hS 0 rfl rfl 10 (by decide) fl76 (fun _ h9 => h9) rfl (by decide +kernel) rfl rfl (Nat.le_of_ble_eq_true rfl) dX11_mend_112 (fun H locs hP hD hS => ?_)
        have hP : va_P D vwCl (wd_X11_mend cyI cyJ cyZ a_this a_sets a_papers a_worths a_sign a_hallSign a_chosen a_upper a_lower v_heaps v_seats v_signs v_hallMany q12 v_paidSeats v_rhoUp v_rhoBy v_breachGroup v_papers v_sets v_worths) H := hP
        have hD : va_D A (wd_X11_mend cyI cyJ cyZ a_this a_sets a_papers a_worths a_sign a_hallSign a_chosen a_upper a_lower v_heaps v_seats v_signs v_hallMany q12 v_paidSeats v_rhoUp v_rhoBy v_breachGroup v_papers v_sets v_worths) := hD
        refine lv_goto (tgt := 2) hx hb dX11_mend_115 (by decide) ?_
        exact ih (1 : Int32) q12 _ _ _ _ hf K hP hD hS (lv_sub hl [1, 0] rfl)
set_option maxHeartbeats 4000000 in
set_option maxRecDepth 100000 in
theorem c_X11_mend (l : Launch) (D : va_G) (cyI cyJ cyZ : ClassId) (a_this a_sets a_papers a_worths a_sign a_hallSign a_chosen a_upper a_lower : Nat) (v_heaps : Int32) (v_seats : Int32) (v_signs : Int32) (v_hallMany : Int32) (v_chosenSet : Int32) (v_paidSeats : Int32) (v_rhoUp : Int64) (v_rhoBy : Int64) (v_breachGroup : Int32) (v_papers : Nat → Int32) (v_sets : Nat → Int32) (v_worths : Nat → Int32) (q : Int32) (hf : f_X11_mend v_heaps v_chosenSet v_papers v_sets v_worths = some q) : kMv l yX11_mend wsX11_mend rm_X11_mend D (kTy cyI cyJ cyZ) [.ref a_this] (wd_X11_mend cyI cyJ cyZ a_this a_sets a_papers a_worths a_sign a_hallSign a_chosen a_upper a_lower v_heaps v_seats v_signs v_hallMany v_chosenSet v_paidSeats v_rhoUp v_rhoBy v_breachGroup v_papers v_sets v_worths) (wd_X11_mend cyI cyJ cyZ a_this a_sets a_papers a_worths a_sign a_hallSign a_chosen a_upper a_lower v_heaps v_seats v_signs v_hallMany q v_paidSeats v_rhoUp v_rhoBy v_breachGroup v_papers v_sets v_worths) := by
  refine kMv_of (cc := cX11_mend) (nL := 6) (own := RX11) (by decide) rfl rfl (Nat.le_of_ble_eq_true rfl) ?_
  intro p e s m below meth c A Q ls C hret hP hD hS hl
  have hl : lv_has ls 6 [(0, .ref a_this)] := hl
  unfold f_X11_mend at hf
  obtain ⟨hx, hb, hml, hown, hts, hK, hA⟩ := id C
  refine lv_iconst (v := (1 : Int32)) hx hb dX11_mend_0 (by decide) ?_
  refine lv_istore_n (lv' := [(1, .int (1 : Int32)), (0, .ref a_this)]) hx hb dX11_mend_1 rfl hl (by decide) rfl (fun ls hl => ?_)
  obtain ⟨q14, hq14, hf⟩ := ob_bind hf
  refine wl_X11_mend_2 C FU (1 : Int32) v_chosenSet _ _ _ _ hq14 (fun H locs ls hP hD hS hl => ?_) hP hD hS (lv_sub hl [1, 0] rfl)
  obtain rfl := Option.some.inj hf
  exact hret _ _ _ _ dX11_mend_118 hP hD hS
abbrev rm_X11_layWay : Room := { frames := 3, cells := 0, slots := 0, locals := 83 }
abbrev wd_X11_layWay (cyI cyJ cyZ : ClassId) (a_this a_sets a_papers a_worths a_sign a_hallSign a_chosen a_upper a_lower : Nat) (v_heaps : Int32) (v_seats : Int32) (v_signs : Int32) (v_hallMany : Int32) (v_chosenSet : Int32) (v_paidSeats : Int32) (v_rhoUp : Int64) (v_rhoBy : Int64) (v_breachGroup : Int32) (v_chosen : Nat → Int32) (v_hallSign : Nat → Int32) (v_lower : Nat → Int64) (v_papers : Nat → Int32) (v_sets : Nat → Int32) (v_upper : Nat → Int64) (v_worths : Nat → Int32) : va_W := [(a_this, .inr (10, [.int v_heaps, .ref a_sets, .ref a_papers, .int v_seats, .ref a_worths, .int v_signs, .ref a_sign, .int v_hallMany, .ref a_hallSign, .ref a_chosen, .int v_chosenSet, .int v_paidSeats, .ref a_upper, .ref a_lower, .long v_rhoUp, .long v_rhoBy, .int v_breachGroup])), (a_chosen, .inl (cyI, 8, .inl v_chosen)), (a_hallSign, .inl (cyI, 40, .inl v_hallSign)), (a_lower, .inl (cyJ, 5, .inr (.inl v_lower))), (a_papers, .inl (cyI, 7, .inl v_papers)), (a_sets, .inl (cyI, 7, .inl v_sets)), (a_upper, .inl (cyJ, 35, .inr (.inl v_upper))), (a_worths, .inl (cyI, 4, .inl v_worths))]
def lp_X11_layWay_19 (y1 : Int32) (v_seats : Int32) : Nat → Int32 → (Nat → Int64) → Option ((Nat → Int64))
  | 0, _, _ => none
  | n + 1, y2, v_upper => (if (7 : Int32) ≤ y2 then some v_upper else (if y1 = (3 : Int32) then (if ob_in y2 35 = true then lp_X11_layWay_19 y1 v_seats n (y2 + (1 : Int32)) (vp_updL v_upper y2.toNatClampNeg ((v_seats).toInt64)) else none) else (if ob_in y2 35 = true then lp_X11_layWay_19 y1 v_seats n (y2 + (1 : Int32)) (vp_updL v_upper y2.toNatClampNeg (0 : Int64)) else none)))
def lp_X11_layWay_53 (y1 : Int32) (v_heaps : Int32) (v_seats : Int32) (v_papers : Nat → Int32) (v_sets : Nat → Int32) (v_worths : Nat → Int32) : Nat → Int32 → Int32 → Int32 → Int64 → Int64 → (Nat → Int32) → (Nat → Int64) → (Nat → Int64) → Option (Int32 × Int32 × Int64 × Int64 × (Nat → Int32) × (Nat → Int64) × (Nat → Int64))
  | 0, _, _, _, _, _, _, _, _ => none
  | n + 1, y2, v_chosenSet, v_paidSeats, v_rhoUp, v_rhoBy, v_chosen, v_lower, v_upper => (if v_seats ≤ y2 then some (v_chosenSet, v_paidSeats, v_rhoUp, v_rhoBy, v_chosen, v_lower, v_upper) else (if y1 = (4 : Int32) then some (v_chosenSet, v_paidSeats, v_rhoUp, v_rhoBy, v_chosen, v_lower, v_upper) else (if y1 = 0 then (f_X11_mostOf v_heaps v_chosenSet v_papers v_sets).bind (fun q18 => (f_X11_pick y2 q18 v_chosenSet v_chosen).bind (fun q19 => lp_X11_layWay_53 y1 v_heaps v_seats v_papers v_sets v_worths n (y2 + (1 : Int32)) q19.1 v_paidSeats v_rhoUp v_rhoBy q19.2 v_lower v_upper)) else (if y1 = (1 : Int32) then (f_X11_greedyOf v_heaps v_chosenSet v_papers v_sets v_worths).bind (fun q10 => (f_X11_pick y2 q10 v_chosenSet v_chosen).bind (fun q11 => lp_X11_layWay_53 y1 v_heaps v_seats v_papers v_sets v_worths n (y2 + (1 : Int32)) q11.1 v_paidSeats v_rhoUp v_rhoBy q11.2 v_lower v_upper)) else (if y1 = (5 : Int32) then (f_X11_greedyOf v_heaps v_chosenSet v_papers v_sets v_worths).bind (fun q16 => (f_X11_pick y2 q16 v_chosenSet v_chosen).bind (fun q17 => lp_X11_layWay_53 y1 v_heaps v_seats v_papers v_sets v_worths n (y2 + (1 : Int32)) q17.1 v_paidSeats v_rhoUp v_rhoBy q17.2 v_lower v_upper)) else (if y1 = (2 : Int32) then (f_X11_loadOne y2 v_heaps v_chosenSet v_chosen v_lower v_papers v_sets v_upper).bind (fun q15 => lp_X11_layWay_53 y1 v_heaps v_seats v_papers v_sets v_worths n (y2 + (1 : Int32)) q15.1 v_paidSeats v_rhoUp v_rhoBy q15.2.1 q15.2.2.1 q15.2.2.2) else (f_X11_share y2 v_heaps v_chosenSet v_paidSeats v_rhoUp v_rhoBy v_chosen v_lower v_papers v_sets v_upper).bind (fun q14 => lp_X11_layWay_53 y1 v_heaps v_seats v_papers v_sets v_worths n (y2 + (1 : Int32)) q14.1 q14.2.1 q14.2.2.1 q14.2.2.2.1 q14.2.2.2.2.1 q14.2.2.2.2.2.1 q14.2.2.2.2.2.2)))))))
def f_X11_layWay (x1 : Int32) (v_heaps : Int32) (v_seats : Int32) (v_hallMany : Int32) (v_chosenSet : Int32) (v_paidSeats : Int32) (v_rhoUp : Int64) (v_rhoBy : Int64) (v_chosen : Nat → Int32) (v_hallSign : Nat → Int32) (v_lower : Nat → Int64) (v_papers : Nat → Int32) (v_sets : Nat → Int32) (v_upper : Nat → Int64) (v_worths : Nat → Int32) : Option (Int32 × Int32 × Int64 × Int64 × (Nat → Int32) × (Nat → Int64) × (Nat → Int64)) := (lp_X11_layWay_19 x1 v_seats FU (0 : Int32) v_upper).bind (fun q5 => (lp_X11_layWay_53 x1 v_heaps v_seats v_papers v_sets v_worths FU (0 : Int32) (0 : Int32) (0 : Int32) v_rhoUp v_rhoBy v_chosen (vp_updL v_lower (0 : Int32).toNatClampNeg (1 : Int64)) q5).bind (fun q20 => (if x1 = (4 : Int32) then (f_X11_bestOf v_heaps v_seats v_hallMany v_hallSign v_papers v_sets v_worths).bind (fun q24 => (if x1 = (5 : Int32) then (f_X11_mend v_heaps q24 v_papers v_sets v_worths).bind (fun q26 => some (q26, q20.2.1, q20.2.2.1, q20.2.2.2.1, q20.2.2.2.2.1, q20.2.2.2.2.2.1, q20.2.2.2.2.2.2)) else some (q24, q20.2.1, q20.2.2.1, q20.2.2.2.1, q20.2.2.2.2.1, q20.2.2.2.2.2.1, q20.2.2.2.2.2.2))) else (if x1 = (5 : Int32) then (f_X11_mend v_heaps q20.1 v_papers v_sets v_worths).bind (fun q23 => some (q23, q20.2.1, q20.2.2.1, q20.2.2.2.1, q20.2.2.2.2.1, q20.2.2.2.2.2.1, q20.2.2.2.2.2.2)) else some (q20.1, q20.2.1, q20.2.2.1, q20.2.2.2.1, q20.2.2.2.2.1, q20.2.2.2.2.2.1, q20.2.2.2.2.2.2)))))
set_option maxHeartbeats 4000000 in
set_option maxRecDepth 100000 in
theorem wl_X11_layWay_19 {p : Program} {l : Launch} {e : Env} {s : State} {m : MethodId} {args : Array Value} {below : List Frame} {meth : Method} {c : Code} {A : Nat → Prop} {Q : State → Prop} {D : va_G} {cyI cyJ cyZ : ClassId} {a_this a_sets a_papers a_worths a_sign a_hallSign a_chosen a_upper a_lower : Nat} {y1 : Int32} {v_heaps : Int32} {v_seats : Int32} {v_signs : Int32} {v_hallMany : Int32} {v_chosenSet : Int32} {v_paidSeats : Int32} {v_rhoUp : Int64} {v_rhoBy : Int64} {v_breachGroup : Int32} {v_chosen : Nat → Int32} {v_hallSign : Nat → Int32} {v_lower : Nat → Int64} {v_papers : Nat → Int32} {v_sets : Nat → Int32} {v_worths : Nat → Int32} (C : kC p s m args c cX11_layWay 3 RX11 wsX11_layWay D (kTy cyI cyJ cyZ) A) :
    ∀ (n : Nat) (y2 : Int32) (v_upper : Nat → Int64) (q : (Nat → Int64)) (H : Heap) (locs : List Loc) (ls : Array Slot), lp_X11_layWay_19 y1 v_seats n y2 v_upper = some q → (∀ (H : Heap) (locs : List Loc) (ls : Array Slot), va_P D vwCl (wd_X11_layWay cyI cyJ cyZ a_this a_sets a_papers a_worths a_sign a_hallSign a_chosen a_upper a_lower v_heaps v_seats v_signs v_hallMany v_chosenSet v_paidSeats v_rhoUp v_rhoBy v_breachGroup v_chosen v_hallSign v_lower v_papers v_sets q v_worths) H → va_D A (wd_X11_layWay cyI cyJ cyZ a_this a_sets a_papers a_worths a_sign a_hallSign a_chosen a_upper a_lower v_heaps v_seats v_signs v_hallMany v_chosenSet v_paidSeats v_rhoUp v_rhoBy v_breachGroup v_chosen v_hallSign v_lower v_papers v_sets q v_worths) → va_S A s.heap H locs → lv_has ls 3 [(0, .ref a_this), (1, .int y1)] → W p l e rm_X11_layWay s m args below meth c H locs 0 0 Q (F0 m 51 ls [])) → va_P D vwCl (wd_X11_layWay cyI cyJ cyZ a_this a_sets a_papers a_worths a_sign a_hallSign a_chosen a_upper a_lower v_heaps v_seats v_signs v_hallMany v_chosenSet v_paidSeats v_rhoUp v_rhoBy v_breachGroup v_chosen v_hallSign v_lower v_papers v_sets v_upper v_worths) H → va_D A (wd_X11_layWay cyI cyJ cyZ a_this a_sets a_papers a_worths a_sign a_hallSign a_chosen a_upper a_lower v_heaps v_seats v_signs v_hallMany v_chosenSet v_paidSeats v_rhoUp v_rhoBy v_breachGroup v_chosen v_hallSign v_lower v_papers v_sets v_upper v_worths) → va_S A s.heap H locs → lv_has ls 3 [(0, .ref a_this), (1, .int y1), (2, .int y2)] → W p l e rm_X11_layWay s m args below meth c H locs 0 0 Q (F0 m 19 ls []) := by
  obtain ⟨hx, hb, hml, hown, hts, hK, hA⟩ := id C
  have iX11 : ∀ w ∈ u_ws RX11 TX11 17, w ∈ wsX11_layWay := by decide +kernel
  have fl16 := hts (.fieldLink RX11 16 "FairSeatsModel" "seats" "I") (by decide +kernel)
  have fl32 := hts (.fieldLink RX11 32 "FairSeatsModel" "upper" "[J") (by decide +kernel)
  intro n
  induction n with
  | zero =>
    intro y2 v_upper q H locs ls hf K hP hD hS hl
    rw [lp_X11_layWay_19] at hf
    cases hf
  | succ n ih =>
    intro y2 v_upper q H locs ls hf K hP hD hS hl
    rw [lp_X11_layWay_19] at hf
    refine lv_iload_n hx hb dX11_layWay_19 rfl (lv_at hl 2 rfl) ?_
    refine lv_bipush (v := (7 : Int32)) hx hb dX11_layWay_20 (by decide) ?_
    refine lv_icmp_ge (tgt := 51) hx hb dX11_layWay_22 (by decide) (fun c1 => ?_) (fun c1 => ?_)
    · have hf := ob_pos c1 hf
      obtain rfl := Option.some.inj hf
      exact K _ _ _ hP hD hS (lv_sub hl [0, 1] rfl)
    · have hf := ob_neg c1 hf
      refine lv_aload_n hx hb dX11_layWay_25 rfl (lv_at hl 0 rfl) ?_
      refine va_get (D := D) (ci := 10) (v := .ref a_upper) (C := RX11) (T := TX11) (N := 17) hx hb hts iX11 hown hK hP 0 rfl rfl 12 (by decide) fl32 (fun _ h9 => h9) rfl dX11_layWay_26 ?_
      refine lv_iload_n hx hb dX11_layWay_29 rfl (lv_at hl 2 rfl) ?_
      refine lv_iload_n hx hb dX11_layWay_30 rfl (lv_at hl 1 rfl) ?_
      refine lv_iconst (v := (3 : Int32)) hx hb dX11_layWay_31 (by decide) ?_
      refine lv_icmp_ne (tgt := 43) hx hb dX11_layWay_32 (by decide) (fun c2 => ?_) (fun c2 => ?_)
      · have hf := ob_neg c2 hf
        refine lv_lconst (v := 0) hx hb dX11_layWay_43 (by decide) ?_
        obtain ⟨h3, hf⟩ := og_in hf
        refine va_last hx hb hK hP hD hS 6 1 rfl rfl h3 dX11_layWay_44 (fun H locs hP hD hS => ?_)
        have hP : va_P D vwCl (wd_X11_layWay cyI cyJ cyZ a_this a_sets a_papers a_worths a_sign a_hallSign a_chosen a_upper a_lower v_heaps v_seats v_signs v_hallMany v_chosenSet v_paidSeats v_rhoUp v_rhoBy v_breachGroup v_chosen v_hallSign v_lower v_papers v_sets (vp_updL v_upper y2.toNatClampNeg (0 : Int64)) v_worths) H := hP
        have hD : va_D A (wd_X11_layWay cyI cyJ cyZ a_this a_sets a_papers a_worths a_sign a_hallSign a_chosen a_upper a_lower v_heaps v_seats v_signs v_hallMany v_chosenSet v_paidSeats v_rhoUp v_rhoBy v_breachGroup v_chosen v_hallSign v_lower v_papers v_sets (vp_updL v_upper y2.toNatClampNeg (0 : Int64)) v_worths) := hD
        refine lv_iinc (v := (y2 + (1 : Int32))) (lv' := [(2, .int (y2 + (1 : Int32))), (0, .ref a_this), (1, .int y1)]) hx hb dX11_layWay_45 hl (k := 2) rfl rfl (by decide) rfl (fun ls hl => ?_)
        refine lv_goto (tgt := 19) hx hb dX11_layWay_48 (by decide) ?_
        exact ih (y2 + (1 : Int32)) (vp_updL v_upper y2.toNatClampNeg (0 : Int64)) _ _ _ _ hf K hP hD hS (lv_sub hl [1, 2, 0] rfl)
      · have hf := ob_pos c2 hf
        refine lv_aload_n hx hb dX11_layWay_35 rfl (lv_at hl 0 rfl) ?_
        refine va_get (D := D) (ci := 10) (v := .int v_seats) (C := RX11) (T := TX11) (N := 17) hx hb hts iX11 hown hK hP 0 rfl rfl 3 (by decide) fl16 (fun _ h9 => h9) rfl dX11_layWay_36 ?_
        refine lv_i2l (v := (v_seats).toInt64) hx hb dX11_layWay_39 rfl ?_
        refine lv_goto (tgt := 44) hx hb dX11_layWay_40 (by decide) ?_
        obtain ⟨h4, hf⟩ := og_in hf
        refine va_last hx hb hK hP hD hS 6 1 rfl rfl h4 dX11_layWay_44 (fun H locs hP hD hS => ?_)
        have hP : va_P D vwCl (wd_X11_layWay cyI cyJ cyZ a_this a_sets a_papers a_worths a_sign a_hallSign a_chosen a_upper a_lower v_heaps v_seats v_signs v_hallMany v_chosenSet v_paidSeats v_rhoUp v_rhoBy v_breachGroup v_chosen v_hallSign v_lower v_papers v_sets (vp_updL v_upper y2.toNatClampNeg ((v_seats).toInt64)) v_worths) H := hP
        have hD : va_D A (wd_X11_layWay cyI cyJ cyZ a_this a_sets a_papers a_worths a_sign a_hallSign a_chosen a_upper a_lower v_heaps v_seats v_signs v_hallMany v_chosenSet v_paidSeats v_rhoUp v_rhoBy v_breachGroup v_chosen v_hallSign v_lower v_papers v_sets (vp_updL v_upper y2.toNatClampNeg ((v_seats).toInt64)) v_worths) := hD
        refine lv_iinc (v := (y2 + (1 : Int32))) (lv' := [(2, .int (y2 + (1 : Int32))), (0, .ref a_this), (1, .int y1)]) hx hb dX11_layWay_45 hl (k := 2) rfl rfl (by decide) rfl (fun ls hl => ?_)
        refine lv_goto (tgt := 19) hx hb dX11_layWay_48 (by decide) ?_
        exact ih (y2 + (1 : Int32)) (vp_updL v_upper y2.toNatClampNeg ((v_seats).toInt64)) _ _ _ _ hf K hP hD hS (lv_sub hl [1, 2, 0] rfl)
set_option maxHeartbeats 4000000 in
set_option maxRecDepth 100000 in
theorem wl_X11_layWay_53 {p : Program} {l : Launch} {e : Env} {s : State} {m : MethodId} {args : Array Value} {below : List Frame} {meth : Method} {c : Code} {A : Nat → Prop} {Q : State → Prop} {D : va_G} {cyI cyJ cyZ : ClassId} {a_this a_sets a_papers a_worths a_sign a_hallSign a_chosen a_upper a_lower : Nat} {y1 : Int32} {v_heaps : Int32} {v_seats : Int32} {v_signs : Int32} {v_hallMany : Int32} {v_breachGroup : Int32} {v_hallSign : Nat → Int32} {v_papers : Nat → Int32} {v_sets : Nat → Int32} {v_worths : Nat → Int32} (C : kC p s m args c cX11_layWay 3 RX11 wsX11_layWay D (kTy cyI cyJ cyZ) A) :
    ∀ (n : Nat) (y2 : Int32) (v_chosenSet : Int32) (v_paidSeats : Int32) (v_rhoUp : Int64) (v_rhoBy : Int64) (v_chosen : Nat → Int32) (v_lower : Nat → Int64) (v_upper : Nat → Int64) (q : Int32 × Int32 × Int64 × Int64 × (Nat → Int32) × (Nat → Int64) × (Nat → Int64)) (H : Heap) (locs : List Loc) (ls : Array Slot), lp_X11_layWay_53 y1 v_heaps v_seats v_papers v_sets v_worths n y2 v_chosenSet v_paidSeats v_rhoUp v_rhoBy v_chosen v_lower v_upper = some q → (∀ (H : Heap) (locs : List Loc) (ls : Array Slot), va_P D vwCl (wd_X11_layWay cyI cyJ cyZ a_this a_sets a_papers a_worths a_sign a_hallSign a_chosen a_upper a_lower v_heaps v_seats v_signs v_hallMany q.1 q.2.1 q.2.2.1 q.2.2.2.1 v_breachGroup q.2.2.2.2.1 v_hallSign q.2.2.2.2.2.1 v_papers v_sets q.2.2.2.2.2.2 v_worths) H → va_D A (wd_X11_layWay cyI cyJ cyZ a_this a_sets a_papers a_worths a_sign a_hallSign a_chosen a_upper a_lower v_heaps v_seats v_signs v_hallMany q.1 q.2.1 q.2.2.1 q.2.2.2.1 v_breachGroup q.2.2.2.2.1 v_hallSign q.2.2.2.2.2.1 v_papers v_sets q.2.2.2.2.2.2 v_worths) → va_S A s.heap H locs → lv_has ls 3 [(0, .ref a_this), (1, .int y1)] → W p l e rm_X11_layWay s m args below meth c H locs 0 0 Q (F0 m 128 ls [])) → va_P D vwCl (wd_X11_layWay cyI cyJ cyZ a_this a_sets a_papers a_worths a_sign a_hallSign a_chosen a_upper a_lower v_heaps v_seats v_signs v_hallMany v_chosenSet v_paidSeats v_rhoUp v_rhoBy v_breachGroup v_chosen v_hallSign v_lower v_papers v_sets v_upper v_worths) H → va_D A (wd_X11_layWay cyI cyJ cyZ a_this a_sets a_papers a_worths a_sign a_hallSign a_chosen a_upper a_lower v_heaps v_seats v_signs v_hallMany v_chosenSet v_paidSeats v_rhoUp v_rhoBy v_breachGroup v_chosen v_hallSign v_lower v_papers v_sets v_upper v_worths) → va_S A s.heap H locs → lv_has ls 3 [(0, .ref a_this), (1, .int y1), (2, .int y2)] → W p l e rm_X11_layWay s m args below meth c H locs 0 0 Q (F0 m 53 ls []) := by
  obtain ⟨hx, hb, hml, hown, hts, hK, hA⟩ := id C
  have iX11 : ∀ w ∈ u_ws RX11 TX11 17, w ∈ wsX11_layWay := by decide +kernel
  have fl16 := hts (.fieldLink RX11 16 "FairSeatsModel" "seats" "I") (by decide +kernel)
  have cw89 := cwV (R := rm_X11_layWay) (rm := rm_X11_mostOf) 0 hts gX11_layWay_X11_mostOf rfl rfl rfl (by decide +kernel) ⟨Nat.le_of_ble_eq_true rfl, Nat.le_of_ble_eq_true rfl⟩
  have cw92 := cwV (R := rm_X11_layWay) (rm := rm_X11_pick) 2 hts gX11_layWay_X11_pick rfl rfl rfl (by decide +kernel) ⟨Nat.le_of_ble_eq_true rfl, Nat.le_of_ble_eq_true rfl⟩
  have cw113 := cwV (R := rm_X11_layWay) (rm := rm_X11_greedyOf) 0 hts gX11_layWay_X11_greedyOf rfl rfl rfl (by decide +kernel) ⟨Nat.le_of_ble_eq_true rfl, Nat.le_of_ble_eq_true rfl⟩
  have cw116 := cwV (R := rm_X11_layWay) (rm := rm_X11_loadOne) 1 hts gX11_layWay_X11_loadOne rfl rfl rfl (by decide +kernel) ⟨Nat.le_of_ble_eq_true rfl, Nat.le_of_ble_eq_true rfl⟩
  have cw120 := cwV (R := rm_X11_layWay) (rm := rm_X11_share) 1 hts gX11_layWay_X11_share rfl rfl rfl (by decide +kernel) ⟨Nat.le_of_ble_eq_true rfl, Nat.le_of_ble_eq_true rfl⟩
  intro n
  induction n with
  | zero =>
    intro y2 v_chosenSet v_paidSeats v_rhoUp v_rhoBy v_chosen v_lower v_upper q H locs ls hf K hP hD hS hl
    rw [lp_X11_layWay_53] at hf
    cases hf
  | succ n ih =>
    intro y2 v_chosenSet v_paidSeats v_rhoUp v_rhoBy v_chosen v_lower v_upper q H locs ls hf K hP hD hS hl
    rw [lp_X11_layWay_53] at hf
    refine lv_iload_n hx hb dX11_layWay_53 rfl (lv_at hl 2 rfl) ?_
    refine lv_aload_n hx hb dX11_layWay_54 rfl (lv_at hl 0 rfl) ?_
    refine va_get (D := D) (ci := 10) (v := .int v_seats) (C := RX11) (T := TX11) (N := 17) hx hb hts iX11 hown hK hP 0 rfl rfl 3 (by decide) fl16 (fun _ h9 => h9) rfl dX11_layWay_55 ?_
    refine lv_icmp_ge (tgt := 128) hx hb dX11_layWay_58 (by decide) (fun c6 => ?_) (fun c6 => ?_)
    · have hf := ob_pos c6 hf
      obtain rfl := Option.some.inj hf
      exact K _ _ _ hP hD hS (lv_sub hl [0, 1] rfl)
    · have hf := ob_neg c6 hf
      refine lv_iload_n hx hb dX11_layWay_61 rfl (lv_at hl 1 rfl) ?_
      refine lv_iconst (v := (4 : Int32)) hx hb dX11_layWay_62 (by decide) ?_
      refine lv_icmp_eq (tgt := 128) hx hb dX11_layWay_63 (by decide) (fun c7 => ?_) (fun c7 => ?_)
      · have hf := ob_pos c7 hf
        obtain rfl := Option.some.inj hf
        exact K _ _ _ hP hD hS (lv_sub hl [0, 1] rfl)
      · have hf := ob_neg c7 hf
        refine lv_iload_n hx hb dX11_layWay_66 rfl (lv_at hl 1 rfl) ?_
        refine lv_if_ne (tgt := 82) hx hb dX11_layWay_67 (by decide) (fun c8 => ?_) (fun c8 => ?_)
        · have hf := ob_neg c8 hf
          refine lv_iload_n hx hb dX11_layWay_82 rfl (lv_at hl 1 rfl) ?_
          refine lv_iconst (v := (1 : Int32)) hx hb dX11_layWay_83 (by decide) ?_
          refine lv_icmp_eq (tgt := 92) hx hb dX11_layWay_84 (by decide) (fun c9 => ?_) (fun c9 => ?_)
          · have hf := ob_pos c9 hf
            refine lv_aload_n hx hb dX11_layWay_92 rfl (lv_at hl 0 rfl) ?_
            refine lv_iload_n hx hb dX11_layWay_93 rfl (lv_at hl 2 rfl) ?_
            refine lv_aload_n hx hb dX11_layWay_94 rfl (lv_at hl 0 rfl) ?_
            obtain ⟨q10, hq10, hf⟩ := ob_bind hf
            refine k_Vi (wo := (wd_X11_layWay cyI cyJ cyZ a_this a_sets a_papers a_worths a_sign a_hallSign a_chosen a_upper a_lower v_heaps v_seats v_signs v_hallMany v_chosenSet v_paidSeats v_rhoUp v_rhoBy v_breachGroup v_chosen v_hallSign v_lower v_papers v_sets v_upper v_worths)) (As := []) (rest := [.int y2, .ref a_this]) C (c_X11_greedyOf l D cyI cyJ cyZ a_this a_sets a_papers a_worths a_sign a_hallSign a_chosen a_upper a_lower v_heaps v_seats v_signs v_hallMany v_chosenSet v_paidSeats v_rhoUp v_rhoBy v_breachGroup v_papers v_sets v_worths  q10 hq10) cw113 hP hD hS [0, 4, 5, 7] [1, 2, 3, 6] [4, 0, 1, 2, 5, 6, 3, 7] rfl rfl rfl (by decide) 0 (ci := 10) rfl rfl rfl rfl rfl hl.1 (Nat.le_of_ble_eq_true rfl) dX11_layWay_95 ⟨Nat.zero_le _, Nat.zero_le _⟩ (fun H locs hP hD hS => ?_)
            obtain ⟨q11, hq11, hf⟩ := ob_bind hf
            refine k_Vv (wo := (wd_X11_layWay cyI cyJ cyZ a_this a_sets a_papers a_worths a_sign a_hallSign a_chosen a_upper a_lower v_heaps v_seats v_signs v_hallMany q11.1 v_paidSeats v_rhoUp v_rhoBy v_breachGroup q11.2 v_hallSign v_lower v_papers v_sets v_upper v_worths)) (As := [.int y2, .int q10]) (rest := []) C (c_X11_pick l D cyI cyJ cyZ a_this a_sets a_papers a_worths a_sign a_hallSign a_chosen a_upper a_lower v_heaps v_seats v_signs v_hallMany v_chosenSet v_paidSeats v_rhoUp v_rhoBy v_breachGroup v_chosen y2 q10 q11 hq11) cw92 hP hD hS [0, 1] [2, 3, 4, 5, 6, 7] [6, 7, 0, 1, 2, 3, 4, 5] rfl rfl rfl (by decide) 0 (ci := 10) rfl rfl rfl rfl rfl hl.1 (Nat.le_of_ble_eq_true rfl) dX11_layWay_98 ⟨Nat.zero_le _, Nat.zero_le _⟩ (fun H locs hP hD hS => ?_)
            refine lv_goto (tgt := 122) hx hb dX11_layWay_101 (by decide) ?_
            refine lv_iinc (v := (y2 + (1 : Int32))) (lv' := [(2, .int (y2 + (1 : Int32))), (0, .ref a_this), (1, .int y1)]) hx hb dX11_layWay_122 hl (k := 2) rfl rfl (by decide) rfl (fun ls hl => ?_)
            refine lv_goto (tgt := 53) hx hb dX11_layWay_125 (by decide) ?_
            exact ih (y2 + (1 : Int32)) q11.1 v_paidSeats v_rhoUp v_rhoBy q11.2 v_lower v_upper _ _ _ _ hf K hP hD hS (lv_sub hl [1, 2, 0] rfl)
          · have hf := ob_neg c9 hf
            refine lv_iload_n hx hb dX11_layWay_87 rfl (lv_at hl 1 rfl) ?_
            refine lv_iconst (v := (5 : Int32)) hx hb dX11_layWay_88 (by decide) ?_
            refine lv_icmp_ne (tgt := 104) hx hb dX11_layWay_89 (by decide) (fun c12 => ?_) (fun c12 => ?_)
            · have hf := ob_neg c12 hf
              refine lv_iload_n hx hb dX11_layWay_104 rfl (lv_at hl 1 rfl) ?_
              refine lv_iconst (v := (2 : Int32)) hx hb dX11_layWay_105 (by decide) ?_
              refine lv_icmp_ne (tgt := 117) hx hb dX11_layWay_106 (by decide) (fun c13 => ?_) (fun c13 => ?_)
              · have hf := ob_neg c13 hf
                refine lv_aload_n hx hb dX11_layWay_117 rfl (lv_at hl 0 rfl) ?_
                refine lv_iload_n hx hb dX11_layWay_118 rfl (lv_at hl 2 rfl) ?_
                obtain ⟨q14, hq14, hf⟩ := ob_bind hf
                refine k_Vv (wo := (wd_X11_layWay cyI cyJ cyZ a_this a_sets a_papers a_worths a_sign a_hallSign a_chosen a_upper a_lower v_heaps v_seats v_signs v_hallMany q14.1 q14.2.1 q14.2.2.1 q14.2.2.2.1 v_breachGroup q14.2.2.2.2.1 v_hallSign q14.2.2.2.2.2.1 v_papers v_sets q14.2.2.2.2.2.2 v_worths)) (As := [.int y2]) (rest := []) C (c_X11_share l D cyI cyJ cyZ a_this a_sets a_papers a_worths a_sign a_hallSign a_chosen a_upper a_lower v_heaps v_seats v_signs v_hallMany v_chosenSet v_paidSeats v_rhoUp v_rhoBy v_breachGroup v_chosen v_lower v_papers v_sets v_upper y2 q14 hq14) cw120 hP hD hS [0, 1, 3, 4, 5, 6] [2, 7] [2, 3, 0, 4, 5, 6, 7, 1] rfl rfl rfl (by decide) 0 (ci := 10) rfl rfl rfl rfl rfl hl.1 (Nat.le_of_ble_eq_true rfl) dX11_layWay_119 ⟨Nat.zero_le _, Nat.zero_le _⟩ (fun H locs hP hD hS => ?_)
                refine lv_iinc (v := (y2 + (1 : Int32))) (lv' := [(2, .int (y2 + (1 : Int32))), (0, .ref a_this), (1, .int y1)]) hx hb dX11_layWay_122 hl (k := 2) rfl rfl (by decide) rfl (fun ls hl => ?_)
                refine lv_goto (tgt := 53) hx hb dX11_layWay_125 (by decide) ?_
                exact ih (y2 + (1 : Int32)) q14.1 q14.2.1 q14.2.2.1 q14.2.2.2.1 q14.2.2.2.2.1 q14.2.2.2.2.2.1 q14.2.2.2.2.2.2 _ _ _ _ hf K hP hD hS (lv_sub hl [1, 2, 0] rfl)
              · have hf := ob_pos c13 hf
                refine lv_aload_n hx hb dX11_layWay_109 rfl (lv_at hl 0 rfl) ?_
                refine lv_iload_n hx hb dX11_layWay_110 rfl (lv_at hl 2 rfl) ?_
                obtain ⟨q15, hq15, hf⟩ := ob_bind hf
                refine k_Vv (wo := (wd_X11_layWay cyI cyJ cyZ a_this a_sets a_papers a_worths a_sign a_hallSign a_chosen a_upper a_lower v_heaps v_seats v_signs v_hallMany q15.1 v_paidSeats v_rhoUp v_rhoBy v_breachGroup q15.2.1 v_hallSign q15.2.2.1 v_papers v_sets q15.2.2.2 v_worths)) (As := [.int y2]) (rest := []) C (c_X11_loadOne l D cyI cyJ cyZ a_this a_sets a_papers a_worths a_sign a_hallSign a_chosen a_upper a_lower v_heaps v_seats v_signs v_hallMany v_chosenSet v_paidSeats v_rhoUp v_rhoBy v_breachGroup v_chosen v_lower v_papers v_sets v_upper y2 q15 hq15) cw116 hP hD hS [0, 1, 3, 4, 5, 6] [2, 7] [2, 3, 0, 4, 5, 6, 7, 1] rfl rfl rfl (by decide) 0 (ci := 10) rfl rfl rfl rfl rfl hl.1 (Nat.le_of_ble_eq_true rfl) dX11_layWay_111 ⟨Nat.zero_le _, Nat.zero_le _⟩ (fun H locs hP hD hS => ?_)
                refine lv_goto (tgt := 122) hx hb dX11_layWay_114 (by decide) ?_
                refine lv_iinc (v := (y2 + (1 : Int32))) (lv' := [(2, .int (y2 + (1 : Int32))), (0, .ref a_this), (1, .int y1)]) hx hb dX11_layWay_122 hl (k := 2) rfl rfl (by decide) rfl (fun ls hl => ?_)
                refine lv_goto (tgt := 53) hx hb dX11_layWay_125 (by decide) ?_
                exact ih (y2 + (1 : Int32)) q15.1 v_paidSeats v_rhoUp v_rhoBy q15.2.1 q15.2.2.1 q15.2.2.2 _ _ _ _ hf K hP hD hS (lv_sub hl [1, 2, 0] rfl)
            · have hf := ob_pos c12 hf
              refine lv_aload_n hx hb dX11_layWay_92 rfl (lv_at hl 0 rfl) ?_
              refine lv_iload_n hx hb dX11_layWay_93 rfl (lv_at hl 2 rfl) ?_
              refine lv_aload_n hx hb dX11_layWay_94 rfl (lv_at hl 0 rfl) ?_
              obtain ⟨q16, hq16, hf⟩ := ob_bind hf
              refine k_Vi (wo := (wd_X11_layWay cyI cyJ cyZ a_this a_sets a_papers a_worths a_sign a_hallSign a_chosen a_upper a_lower v_heaps v_seats v_signs v_hallMany v_chosenSet v_paidSeats v_rhoUp v_rhoBy v_breachGroup v_chosen v_hallSign v_lower v_papers v_sets v_upper v_worths)) (As := []) (rest := [.int y2, .ref a_this]) C (c_X11_greedyOf l D cyI cyJ cyZ a_this a_sets a_papers a_worths a_sign a_hallSign a_chosen a_upper a_lower v_heaps v_seats v_signs v_hallMany v_chosenSet v_paidSeats v_rhoUp v_rhoBy v_breachGroup v_papers v_sets v_worths  q16 hq16) cw113 hP hD hS [0, 4, 5, 7] [1, 2, 3, 6] [4, 0, 1, 2, 5, 6, 3, 7] rfl rfl rfl (by decide) 0 (ci := 10) rfl rfl rfl rfl rfl hl.1 (Nat.le_of_ble_eq_true rfl) dX11_layWay_95 ⟨Nat.zero_le _, Nat.zero_le _⟩ (fun H locs hP hD hS => ?_)
              obtain ⟨q17, hq17, hf⟩ := ob_bind hf
              refine k_Vv (wo := (wd_X11_layWay cyI cyJ cyZ a_this a_sets a_papers a_worths a_sign a_hallSign a_chosen a_upper a_lower v_heaps v_seats v_signs v_hallMany q17.1 v_paidSeats v_rhoUp v_rhoBy v_breachGroup q17.2 v_hallSign v_lower v_papers v_sets v_upper v_worths)) (As := [.int y2, .int q16]) (rest := []) C (c_X11_pick l D cyI cyJ cyZ a_this a_sets a_papers a_worths a_sign a_hallSign a_chosen a_upper a_lower v_heaps v_seats v_signs v_hallMany v_chosenSet v_paidSeats v_rhoUp v_rhoBy v_breachGroup v_chosen y2 q16 q17 hq17) cw92 hP hD hS [0, 1] [2, 3, 4, 5, 6, 7] [6, 7, 0, 1, 2, 3, 4, 5] rfl rfl rfl (by decide) 0 (ci := 10) rfl rfl rfl rfl rfl hl.1 (Nat.le_of_ble_eq_true rfl) dX11_layWay_98 ⟨Nat.zero_le _, Nat.zero_le _⟩ (fun H locs hP hD hS => ?_)
              refine lv_goto (tgt := 122) hx hb dX11_layWay_101 (by decide) ?_
              refine lv_iinc (v := (y2 + (1 : Int32))) (lv' := [(2, .int (y2 + (1 : Int32))), (0, .ref a_this), (1, .int y1)]) hx hb dX11_layWay_122 hl (k := 2) rfl rfl (by decide) rfl (fun ls hl => ?_)
              refine lv_goto (tgt := 53) hx hb dX11_layWay_125 (by decide) ?_
              exact ih (y2 + (1 : Int32)) q17.1 v_paidSeats v_rhoUp v_rhoBy q17.2 v_lower v_upper _ _ _ _ hf K hP hD hS (lv_sub hl [1, 2, 0] rfl)
        · have hf := ob_pos c8 hf
          refine lv_aload_n hx hb dX11_layWay_70 rfl (lv_at hl 0 rfl) ?_
          refine lv_iload_n hx hb dX11_layWay_71 rfl (lv_at hl 2 rfl) ?_
          refine lv_aload_n hx hb dX11_layWay_72 rfl (lv_at hl 0 rfl) ?_
          obtain ⟨q18, hq18, hf⟩ := ob_bind hf
          refine k_Vi (wo := (wd_X11_layWay cyI cyJ cyZ a_this a_sets a_papers a_worths a_sign a_hallSign a_chosen a_upper a_lower v_heaps v_seats v_signs v_hallMany v_chosenSet v_paidSeats v_rhoUp v_rhoBy v_breachGroup v_chosen v_hallSign v_lower v_papers v_sets v_upper v_worths)) (As := []) (rest := [.int y2, .ref a_this]) C (c_X11_mostOf l D cyI cyJ cyZ a_this a_sets a_papers a_worths a_sign a_hallSign a_chosen a_upper a_lower v_heaps v_seats v_signs v_hallMany v_chosenSet v_paidSeats v_rhoUp v_rhoBy v_breachGroup v_papers v_sets  q18 hq18) cw89 hP hD hS [0, 4, 5] [1, 2, 3, 6, 7] [5, 0, 1, 2, 6, 7, 3, 4] rfl rfl rfl (by decide) 0 (ci := 10) rfl rfl rfl rfl rfl hl.1 (Nat.le_of_ble_eq_true rfl) dX11_layWay_73 ⟨Nat.zero_le _, Nat.zero_le _⟩ (fun H locs hP hD hS => ?_)
          obtain ⟨q19, hq19, hf⟩ := ob_bind hf
          refine k_Vv (wo := (wd_X11_layWay cyI cyJ cyZ a_this a_sets a_papers a_worths a_sign a_hallSign a_chosen a_upper a_lower v_heaps v_seats v_signs v_hallMany q19.1 v_paidSeats v_rhoUp v_rhoBy v_breachGroup q19.2 v_hallSign v_lower v_papers v_sets v_upper v_worths)) (As := [.int y2, .int q18]) (rest := []) C (c_X11_pick l D cyI cyJ cyZ a_this a_sets a_papers a_worths a_sign a_hallSign a_chosen a_upper a_lower v_heaps v_seats v_signs v_hallMany v_chosenSet v_paidSeats v_rhoUp v_rhoBy v_breachGroup v_chosen y2 q18 q19 hq19) cw92 hP hD hS [0, 1] [2, 3, 4, 5, 6, 7] [6, 7, 0, 1, 2, 3, 4, 5] rfl rfl rfl (by decide) 0 (ci := 10) rfl rfl rfl rfl rfl hl.1 (Nat.le_of_ble_eq_true rfl) dX11_layWay_76 ⟨Nat.zero_le _, Nat.zero_le _⟩ (fun H locs hP hD hS => ?_)
          refine lv_goto (tgt := 122) hx hb dX11_layWay_79 (by decide) ?_
          refine lv_iinc (v := (y2 + (1 : Int32))) (lv' := [(2, .int (y2 + (1 : Int32))), (0, .ref a_this), (1, .int y1)]) hx hb dX11_layWay_122 hl (k := 2) rfl rfl (by decide) rfl (fun ls hl => ?_)
          refine lv_goto (tgt := 53) hx hb dX11_layWay_125 (by decide) ?_
          exact ih (y2 + (1 : Int32)) q19.1 v_paidSeats v_rhoUp v_rhoBy q19.2 v_lower v_upper _ _ _ _ hf K hP hD hS (lv_sub hl [1, 2, 0] rfl)
set_option maxHeartbeats 4000000 in
set_option maxRecDepth 100000 in
theorem c_X11_layWay (l : Launch) (D : va_G) (cyI cyJ cyZ : ClassId) (a_this a_sets a_papers a_worths a_sign a_hallSign a_chosen a_upper a_lower : Nat) (v_heaps : Int32) (v_seats : Int32) (v_signs : Int32) (v_hallMany : Int32) (v_chosenSet : Int32) (v_paidSeats : Int32) (v_rhoUp : Int64) (v_rhoBy : Int64) (v_breachGroup : Int32) (v_chosen : Nat → Int32) (v_hallSign : Nat → Int32) (v_lower : Nat → Int64) (v_papers : Nat → Int32) (v_sets : Nat → Int32) (v_upper : Nat → Int64) (v_worths : Nat → Int32) (x1 : Int32) (q : Int32 × Int32 × Int64 × Int64 × (Nat → Int32) × (Nat → Int64) × (Nat → Int64)) (hf : f_X11_layWay x1 v_heaps v_seats v_hallMany v_chosenSet v_paidSeats v_rhoUp v_rhoBy v_chosen v_hallSign v_lower v_papers v_sets v_upper v_worths = some q) : kMv l yX11_layWay wsX11_layWay rm_X11_layWay D (kTy cyI cyJ cyZ) [.ref a_this, .int x1] (wd_X11_layWay cyI cyJ cyZ a_this a_sets a_papers a_worths a_sign a_hallSign a_chosen a_upper a_lower v_heaps v_seats v_signs v_hallMany v_chosenSet v_paidSeats v_rhoUp v_rhoBy v_breachGroup v_chosen v_hallSign v_lower v_papers v_sets v_upper v_worths) (wd_X11_layWay cyI cyJ cyZ a_this a_sets a_papers a_worths a_sign a_hallSign a_chosen a_upper a_lower v_heaps v_seats v_signs v_hallMany q.1 q.2.1 q.2.2.1 q.2.2.2.1 v_breachGroup q.2.2.2.2.1 v_hallSign q.2.2.2.2.2.1 v_papers v_sets q.2.2.2.2.2.2 v_worths) := by
  refine kMv_of (cc := cX11_layWay) (nL := 3) (own := RX11) (by decide) rfl rfl (Nat.le_of_ble_eq_true rfl) ?_
  intro p e s m below meth c A Q ls C hret hP hD hS hl
  have hl : lv_has ls 3 [(0, .ref a_this), (1, .int x1)] := hl
  unfold f_X11_layWay at hf
  obtain ⟨hx, hb, hml, hown, hts, hK, hA⟩ := id C
  have iX11 : ∀ w ∈ u_ws RX11 TX11 17, w ∈ wsX11_layWay := by decide +kernel
  have fl36 := hts (.fieldLink RX11 36 "FairSeatsModel" "lower" "[J") (by decide +kernel)
  have fl76 := hts (.fieldLink RX11 76 "FairSeatsModel" "chosenSet" "I") (by decide +kernel)
  have fl110 := hts (.fieldLink RX11 110 "FairSeatsModel" "paidSeats" "I") (by decide +kernel)
  have cw123 := cwV (R := rm_X11_layWay) (rm := rm_X11_bestOf) 0 hts gX11_layWay_X11_bestOf rfl rfl rfl (by decide +kernel) ⟨Nat.le_of_ble_eq_true rfl, Nat.le_of_ble_eq_true rfl⟩
  have cw126 := cwV (R := rm_X11_layWay) (rm := rm_X11_mend) 0 hts gX11_layWay_X11_mend rfl rfl rfl (by decide +kernel) ⟨Nat.le_of_ble_eq_true rfl, Nat.le_of_ble_eq_true rfl⟩
  refine lv_aload_n hx hb dX11_layWay_0 rfl (lv_at hl 0 rfl) ?_
  refine lv_iconst (v := (0 : Int32)) hx hb dX11_layWay_1 (by decide) ?_
  refine va_put (D := D) (ci := 10) (v := .int (0 : Int32)) (ty := .int) (C := RX11) (T := TX11) (N := 17) hx hb hts iX11 tyX11 tyX11_ok nmX11 hown hK hP hD hS 0 rfl rfl 10 (by decide) fl76 (fun _ h9 => h9) rfl (by decide +kernel) rfl rfl (Nat.le_of_ble_eq_true rfl) dX11_layWay_2 (fun H locs hP hD hS => ?_)
  have hP : va_P D vwCl (wd_X11_layWay cyI cyJ cyZ a_this a_sets a_papers a_worths a_sign a_hallSign a_chosen a_upper a_lower v_heaps v_seats v_signs v_hallMany (0 : Int32) v_paidSeats v_rhoUp v_rhoBy v_breachGroup v_chosen v_hallSign v_lower v_papers v_sets v_upper v_worths) H := hP
  have hD : va_D A (wd_X11_layWay cyI cyJ cyZ a_this a_sets a_papers a_worths a_sign a_hallSign a_chosen a_upper a_lower v_heaps v_seats v_signs v_hallMany (0 : Int32) v_paidSeats v_rhoUp v_rhoBy v_breachGroup v_chosen v_hallSign v_lower v_papers v_sets v_upper v_worths) := hD
  refine lv_aload_n hx hb dX11_layWay_5 rfl (lv_at hl 0 rfl) ?_
  refine lv_iconst (v := (0 : Int32)) hx hb dX11_layWay_6 (by decide) ?_
  refine va_put (D := D) (ci := 10) (v := .int (0 : Int32)) (ty := .int) (C := RX11) (T := TX11) (N := 17) hx hb hts iX11 tyX11 tyX11_ok nmX11 hown hK hP hD hS 0 rfl rfl 11 (by decide) fl110 (fun _ h9 => h9) rfl (by decide +kernel) rfl rfl (Nat.le_of_ble_eq_true rfl) dX11_layWay_7 (fun H locs hP hD hS => ?_)
  have hP : va_P D vwCl (wd_X11_layWay cyI cyJ cyZ a_this a_sets a_papers a_worths a_sign a_hallSign a_chosen a_upper a_lower v_heaps v_seats v_signs v_hallMany (0 : Int32) (0 : Int32) v_rhoUp v_rhoBy v_breachGroup v_chosen v_hallSign v_lower v_papers v_sets v_upper v_worths) H := hP
  have hD : va_D A (wd_X11_layWay cyI cyJ cyZ a_this a_sets a_papers a_worths a_sign a_hallSign a_chosen a_upper a_lower v_heaps v_seats v_signs v_hallMany (0 : Int32) (0 : Int32) v_rhoUp v_rhoBy v_breachGroup v_chosen v_hallSign v_lower v_papers v_sets v_upper v_worths) := hD
  refine lv_aload_n hx hb dX11_layWay_10 rfl (lv_at hl 0 rfl) ?_
  refine va_get (D := D) (ci := 10) (v := .ref a_lower) (C := RX11) (T := TX11) (N := 17) hx hb hts iX11 hown hK hP 0 rfl rfl 13 (by decide) fl36 (fun _ h9 => h9) rfl dX11_layWay_11 ?_
  refine lv_iconst (v := (0 : Int32)) hx hb dX11_layWay_14 (by decide) ?_
  refine lv_lconst (v := 1) hx hb dX11_layWay_15 (by decide) ?_
  refine va_last hx hb hK hP hD hS 3 1 rfl rfl (ob_in_iff.mp rfl) dX11_layWay_16 (fun H locs hP hD hS => ?_)
  have hP : va_P D vwCl (wd_X11_layWay cyI cyJ cyZ a_this a_sets a_papers a_worths a_sign a_hallSign a_chosen a_upper a_lower v_heaps v_seats v_signs v_hallMany (0 : Int32) (0 : Int32) v_rhoUp v_rhoBy v_breachGroup v_chosen v_hallSign (vp_updL v_lower (0 : Int32).toNatClampNeg (1 : Int64)) v_papers v_sets v_upper v_worths) H := hP
  have hD : va_D A (wd_X11_layWay cyI cyJ cyZ a_this a_sets a_papers a_worths a_sign a_hallSign a_chosen a_upper a_lower v_heaps v_seats v_signs v_hallMany (0 : Int32) (0 : Int32) v_rhoUp v_rhoBy v_breachGroup v_chosen v_hallSign (vp_updL v_lower (0 : Int32).toNatClampNeg (1 : Int64)) v_papers v_sets v_upper v_worths) := hD
  refine lv_iconst (v := (0 : Int32)) hx hb dX11_layWay_17 (by decide) ?_
  refine lv_istore_n (lv' := [(2, .int (0 : Int32)), (0, .ref a_this), (1, .int x1)]) hx hb dX11_layWay_18 rfl hl (by decide) rfl (fun ls hl => ?_)
  obtain ⟨q5, hq5, hf⟩ := ob_bind hf
  refine wl_X11_layWay_19 C FU (0 : Int32) v_upper _ _ _ _ hq5 (fun H locs ls hP hD hS hl => ?_) hP hD hS (lv_sub hl [1, 2, 0] rfl)
  refine lv_iconst (v := (0 : Int32)) hx hb dX11_layWay_51 (by decide) ?_
  refine lv_istore_n (lv' := [(2, .int (0 : Int32)), (0, .ref a_this), (1, .int x1)]) hx hb dX11_layWay_52 rfl hl (by decide) rfl (fun ls hl => ?_)
  obtain ⟨q20, hq20, hf⟩ := ob_bind hf
  refine wl_X11_layWay_53 C FU (0 : Int32) (0 : Int32) (0 : Int32) v_rhoUp v_rhoBy v_chosen (vp_updL v_lower (0 : Int32).toNatClampNeg (1 : Int64)) q5 _ _ _ _ hq20 (fun H locs ls hP hD hS hl => ?_) hP hD hS (lv_sub hl [1, 2, 0] rfl)
  refine lv_iload_n hx hb dX11_layWay_128 rfl (lv_at hl 1 rfl) ?_
  refine lv_iconst (v := (4 : Int32)) hx hb dX11_layWay_129 (by decide) ?_
  refine lv_icmp_ne (tgt := 141) hx hb dX11_layWay_130 (by decide) (fun c21 => ?_) (fun c21 => ?_)
  · have hf := ob_neg c21 hf
    refine lv_iload_n hx hb dX11_layWay_141 rfl (lv_at hl 1 rfl) ?_
    refine lv_iconst (v := (5 : Int32)) hx hb dX11_layWay_142 (by decide) ?_
    refine lv_icmp_ne (tgt := 150) hx hb dX11_layWay_143 (by decide) (fun c22 => ?_) (fun c22 => ?_)
    · have hf := ob_neg c22 hf
      obtain rfl := Option.some.inj hf
      exact hret _ _ _ _ dX11_layWay_150 hP hD hS
    · have hf := ob_pos c22 hf
      refine lv_aload_n hx hb dX11_layWay_146 rfl (lv_at hl 0 rfl) ?_
      obtain ⟨q23, hq23, hf⟩ := ob_bind hf
      refine k_Vv (wo := (wd_X11_layWay cyI cyJ cyZ a_this a_sets a_papers a_worths a_sign a_hallSign a_chosen a_upper a_lower v_heaps v_seats v_signs v_hallMany q23 q20.2.1 q20.2.2.1 q20.2.2.2.1 v_breachGroup q20.2.2.2.2.1 v_hallSign q20.2.2.2.2.2.1 v_papers v_sets q20.2.2.2.2.2.2 v_worths)) (As := []) (rest := []) C (c_X11_mend l D cyI cyJ cyZ a_this a_sets a_papers a_worths a_sign a_hallSign a_chosen a_upper a_lower v_heaps v_seats v_signs v_hallMany q20.1 q20.2.1 q20.2.2.1 q20.2.2.2.1 v_breachGroup v_papers v_sets v_worths  q23 hq23) cw126 hP hD hS [0, 4, 5, 7] [1, 2, 3, 6] [4, 0, 1, 2, 5, 6, 3, 7] rfl rfl rfl (by decide) 0 (ci := 10) rfl rfl rfl rfl rfl hl.1 (Nat.le_of_ble_eq_true rfl) dX11_layWay_147 ⟨Nat.zero_le _, Nat.zero_le _⟩ (fun H locs hP hD hS => ?_)
      obtain rfl := Option.some.inj hf
      exact hret _ _ _ _ dX11_layWay_150 hP hD hS
  · have hf := ob_pos c21 hf
    refine lv_aload_n hx hb dX11_layWay_133 rfl (lv_at hl 0 rfl) ?_
    refine lv_aload_n hx hb dX11_layWay_134 rfl (lv_at hl 0 rfl) ?_
    obtain ⟨q24, hq24, hf⟩ := ob_bind hf
    refine k_Vi (wo := (wd_X11_layWay cyI cyJ cyZ a_this a_sets a_papers a_worths a_sign a_hallSign a_chosen a_upper a_lower v_heaps v_seats v_signs v_hallMany q20.1 q20.2.1 q20.2.2.1 q20.2.2.2.1 v_breachGroup q20.2.2.2.2.1 v_hallSign q20.2.2.2.2.2.1 v_papers v_sets q20.2.2.2.2.2.2 v_worths)) (As := []) (rest := [.ref a_this]) C (c_X11_bestOf l D cyI cyJ cyZ a_this a_sets a_papers a_worths a_sign a_hallSign a_chosen a_upper a_lower v_heaps v_seats v_signs v_hallMany q20.1 q20.2.1 q20.2.2.1 q20.2.2.2.1 v_breachGroup v_hallSign v_papers v_sets v_worths  q24 hq24) cw123 hP hD hS [0, 2, 4, 5, 7] [1, 3, 6] [3, 0, 4, 1, 5, 6, 2, 7] rfl rfl rfl (by decide) 0 (ci := 10) rfl rfl rfl rfl rfl hl.1 (Nat.le_of_ble_eq_true rfl) dX11_layWay_135 ⟨Nat.zero_le _, Nat.zero_le _⟩ (fun H locs hP hD hS => ?_)
    refine va_put (D := D) (ci := 10) (v := .int q24) (ty := .int) (C := RX11) (T := TX11) (N := 17) hx hb hts iX11 tyX11 tyX11_ok nmX11 hown hK hP hD hS 0 rfl rfl 10 (by decide) fl76 (fun _ h9 => h9) rfl (by decide +kernel) rfl rfl (Nat.le_of_ble_eq_true rfl) dX11_layWay_138 (fun H locs hP hD hS => ?_)
    have hP : va_P D vwCl (wd_X11_layWay cyI cyJ cyZ a_this a_sets a_papers a_worths a_sign a_hallSign a_chosen a_upper a_lower v_heaps v_seats v_signs v_hallMany q24 q20.2.1 q20.2.2.1 q20.2.2.2.1 v_breachGroup q20.2.2.2.2.1 v_hallSign q20.2.2.2.2.2.1 v_papers v_sets q20.2.2.2.2.2.2 v_worths) H := hP
    have hD : va_D A (wd_X11_layWay cyI cyJ cyZ a_this a_sets a_papers a_worths a_sign a_hallSign a_chosen a_upper a_lower v_heaps v_seats v_signs v_hallMany q24 q20.2.1 q20.2.2.1 q20.2.2.2.1 v_breachGroup q20.2.2.2.2.1 v_hallSign q20.2.2.2.2.2.1 v_papers v_sets q20.2.2.2.2.2.2 v_worths) := hD
    refine lv_iload_n hx hb dX11_layWay_141 rfl (lv_at hl 1 rfl) ?_
    refine lv_iconst (v := (5 : Int32)) hx hb dX11_layWay_142 (by decide) ?_
    refine lv_icmp_ne (tgt := 150) hx hb dX11_layWay_143 (by decide) (fun c25 => ?_) (fun c25 => ?_)
    · have hf := ob_neg c25 hf
      obtain rfl := Option.some.inj hf
      exact hret _ _ _ _ dX11_layWay_150 hP hD hS
    · have hf := ob_pos c25 hf
      refine lv_aload_n hx hb dX11_layWay_146 rfl (lv_at hl 0 rfl) ?_
      obtain ⟨q26, hq26, hf⟩ := ob_bind hf
      refine k_Vv (wo := (wd_X11_layWay cyI cyJ cyZ a_this a_sets a_papers a_worths a_sign a_hallSign a_chosen a_upper a_lower v_heaps v_seats v_signs v_hallMany q26 q20.2.1 q20.2.2.1 q20.2.2.2.1 v_breachGroup q20.2.2.2.2.1 v_hallSign q20.2.2.2.2.2.1 v_papers v_sets q20.2.2.2.2.2.2 v_worths)) (As := []) (rest := []) C (c_X11_mend l D cyI cyJ cyZ a_this a_sets a_papers a_worths a_sign a_hallSign a_chosen a_upper a_lower v_heaps v_seats v_signs v_hallMany q24 q20.2.1 q20.2.2.1 q20.2.2.2.1 v_breachGroup v_papers v_sets v_worths  q26 hq26) cw126 hP hD hS [0, 4, 5, 7] [1, 2, 3, 6] [4, 0, 1, 2, 5, 6, 3, 7] rfl rfl rfl (by decide) 0 (ci := 10) rfl rfl rfl rfl rfl hl.1 (Nat.le_of_ble_eq_true rfl) dX11_layWay_147 ⟨Nat.zero_le _, Nat.zero_le _⟩ (fun H locs hP hD hS => ?_)
      obtain rfl := Option.some.inj hf
      exact hret _ _ _ _ dX11_layWay_150 hP hD hS
abbrev rm_X11_isWay : Room := { frames := 1, cells := 0, slots := 0, locals := 22 }
abbrev wd_X11_isWay (cyI cyJ cyZ : ClassId) : va_W := []
def f_X11_isWay (x0 : Int32) : Option (Int32) := (f_X11_in x0 (0 : Int32) (5 : Int32)).bind (fun q1 => some q1)
set_option maxHeartbeats 4000000 in
set_option maxRecDepth 100000 in
theorem c_X11_isWay (l : Launch) (D : va_G) (cyI cyJ cyZ : ClassId) (x0 : Int32) (q : Int32) (hf : f_X11_isWay x0 = some q) : kMz l yX11_isWay wsX11_isWay rm_X11_isWay D (kTy cyI cyJ cyZ) [.int x0] (wd_X11_isWay cyI cyJ cyZ) (wd_X11_isWay cyI cyJ cyZ) q := by
  refine kMz_of (cc := cX11_isWay) (nL := 1) (own := RX11) (by decide) rfl rfl (Nat.le_of_ble_eq_true rfl) ?_
  intro p e s m below meth c A Q ls C hret hP hD hS hl
  have hl : lv_has ls 1 [(0, .int x0)] := hl
  unfold f_X11_isWay at hf
  obtain ⟨hx, hb, hml, hown, hts, hK, hA⟩ := id C
  have cw42 := va_cwS (R := rm_X11_isWay) (rm := rm_X11_in) 3 hts gX11_isWay_X11_in rfl rfl rfl (by decide +kernel) ⟨Nat.le_of_ble_eq_true rfl, Nat.le_of_ble_eq_true rfl⟩
  refine lv_iload_n hx hb dX11_isWay_0 rfl (lv_at hl 0 rfl) ?_
  refine lv_iconst (v := (0 : Int32)) hx hb dX11_isWay_1 (by decide) ?_
  refine lv_iconst (v := (5 : Int32)) hx hb dX11_isWay_2 (by decide) ?_
  obtain ⟨q1, hq1, hf⟩ := ob_bind hf
  refine k_Sz (wo := (wd_X11_isWay cyI cyJ cyZ)) (As := [.int x0, .int (0 : Int32), .int (5 : Int32)]) (rest := []) C (c_X11_in l D cyI cyJ cyZ   x0 (0 : Int32) (5 : Int32) q1 hq1) cw42 hP hD hS [] [] [] rfl rfl rfl (by decide) rfl rfl hl.1 (Nat.le_of_ble_eq_true rfl) dX11_isWay_3 ⟨Nat.zero_le _, Nat.zero_le _⟩ (fun H locs zq1 hP hD hS => ?_)
  obtain rfl := Option.some.inj hf
  exact hret _ _ _ _ zq1 dX11_isWay_6 hP hD hS
abbrev rm_X11_nth : Room := { frames := 0, cells := 0, slots := 0, locals := 0 }
abbrev wd_X11_nth (cyI cyJ cyZ : ClassId) : va_W := []
def lp_X11_nth_4 (y0 : Int32) (y1 : Int32) (k : (Unit) → Option (Int32)) : Nat → Int32 → Int32 → Option (Int32)
  | 0, _, _ => none
  | n + 1, y2, y3 => (if (8 : Int32) ≤ y3 then k () else (if ((y0 >>> (y3 &&& 31)) &&& (1 : Int32)) = (1 : Int32) then (if y2 = y1 then some y3 else lp_X11_nth_4 y0 y1 k n (y2 + (1 : Int32)) (y3 + (1 : Int32))) else lp_X11_nth_4 y0 y1 k n y2 (y3 + (1 : Int32))))
def f_X11_nth (x0 : Int32) (x1 : Int32) : Option (Int32) := lp_X11_nth_4 x0 x1 (fun q4 => some (-6 : Int32)) FU (0 : Int32) (0 : Int32)
set_option maxHeartbeats 4000000 in
set_option maxRecDepth 100000 in
theorem wl_X11_nth_4 {p : Program} {l : Launch} {e : Env} {s : State} {m : MethodId} {args : Array Value} {below : List Frame} {meth : Method} {c : Code} {A : Nat → Prop} {Q : State → Prop} {D : va_G} {cyI cyJ cyZ : ClassId} {y0 : Int32} {y1 : Int32} {k : (Unit) → Option (Int32)} {q : Int32} (C : kC p s m args c cX11_nth 4 RX11 wsX11_nth D (kTy cyI cyJ cyZ) A) (hret : ∀ (pc : Nat) (H : Heap) (locs : List Loc) (ls : Array Slot), decode cX11_nth pc = .ok (.ireturn, 1) → va_P D vwCl (wd_X11_nth cyI cyJ cyZ) H → va_D A (wd_X11_nth cyI cyJ cyZ) → va_S A s.heap H locs → W p l e rm_X11_nth s m args below meth c H locs 0 0 Q (F0 m pc ls [.int q])) (K : (∀ (x : Unit) (H : Heap) (locs : List Loc) (ls : Array Slot), k x = some q → va_P D vwCl (wd_X11_nth cyI cyJ cyZ) H → va_D A (wd_X11_nth cyI cyJ cyZ) → va_S A s.heap H locs → lv_has ls 4 [] → W p l e rm_X11_nth s m args below meth c H locs 0 0 Q (F0 m 35 ls []))) :
    ∀ (n : Nat) (y2 : Int32) (y3 : Int32) (H : Heap) (locs : List Loc) (ls : Array Slot), lp_X11_nth_4 y0 y1 k n y2 y3 = some q → va_P D vwCl (wd_X11_nth cyI cyJ cyZ) H → va_D A (wd_X11_nth cyI cyJ cyZ) → va_S A s.heap H locs → lv_has ls 4 [(0, .int y0), (1, .int y1), (2, .int y2), (3, .int y3)] → W p l e rm_X11_nth s m args below meth c H locs 0 0 Q (F0 m 4 ls []) := by
  obtain ⟨hx, hb, hml, hown, hts, hK, hA⟩ := id C
  intro n
  induction n with
  | zero =>
    intro y2 y3 H locs ls hf hP hD hS hl
    rw [lp_X11_nth_4] at hf
    cases hf
  | succ n ih =>
    intro y2 y3 H locs ls hf hP hD hS hl
    rw [lp_X11_nth_4] at hf
    refine lv_iload_n hx hb dX11_nth_4 rfl (lv_at hl 3 rfl) ?_
    refine lv_bipush (v := (8 : Int32)) hx hb dX11_nth_5 (by decide) ?_
    refine lv_icmp_ge (tgt := 35) hx hb dX11_nth_7 (by decide) (fun c1 => ?_) (fun c1 => ?_)
    · have hf := ob_pos c1 hf
      exact K () _ _ _ hf hP hD hS (lv_sub hl [] rfl)
    · have hf := ob_neg c1 hf
      refine lv_iload_n hx hb dX11_nth_10 rfl (lv_at hl 0 rfl) ?_
      refine lv_iload_n hx hb dX11_nth_11 rfl (lv_at hl 3 rfl) ?_
      refine lv_ishr hx hb dX11_nth_12 ?_
      refine lv_iconst (v := (1 : Int32)) hx hb dX11_nth_13 (by decide) ?_
      refine lv_iand hx hb dX11_nth_14 ?_
      refine lv_iconst (v := (1 : Int32)) hx hb dX11_nth_15 (by decide) ?_
      refine lv_icmp_ne (tgt := 29) hx hb dX11_nth_16 (by decide) (fun c2 => ?_) (fun c2 => ?_)
      · have hf := ob_neg c2 hf
        refine lv_iinc (v := (y3 + (1 : Int32))) (lv' := [(3, .int (y3 + (1 : Int32))), (0, .int y0), (1, .int y1), (2, .int y2)]) hx hb dX11_nth_29 hl (k := 3) rfl rfl (by decide) rfl (fun ls hl => ?_)
        refine lv_goto (tgt := 4) hx hb dX11_nth_32 (by decide) ?_
        exact ih y2 (y3 + (1 : Int32)) _ _ _ hf hP hD hS (lv_sub hl [1, 2, 3, 0] rfl)
      · have hf := ob_pos c2 hf
        refine lv_iload_n hx hb dX11_nth_19 rfl (lv_at hl 2 rfl) ?_
        refine lv_iload_n hx hb dX11_nth_20 rfl (lv_at hl 1 rfl) ?_
        refine lv_icmp_ne (tgt := 26) hx hb dX11_nth_21 (by decide) (fun c3 => ?_) (fun c3 => ?_)
        · have hf := ob_neg c3 hf
          refine lv_iinc (v := (y2 + (1 : Int32))) (lv' := [(2, .int (y2 + (1 : Int32))), (0, .int y0), (1, .int y1), (3, .int y3)]) hx hb dX11_nth_26 hl (k := 2) rfl rfl (by decide) rfl (fun ls hl => ?_)
          refine lv_iinc (v := (y3 + (1 : Int32))) (lv' := [(3, .int (y3 + (1 : Int32))), (2, .int (y2 + (1 : Int32))), (0, .int y0), (1, .int y1)]) hx hb dX11_nth_29 hl (k := 3) rfl rfl (by decide) rfl (fun ls hl => ?_)
          refine lv_goto (tgt := 4) hx hb dX11_nth_32 (by decide) ?_
          exact ih (y2 + (1 : Int32)) (y3 + (1 : Int32)) _ _ _ hf hP hD hS (lv_sub hl [2, 3, 1, 0] rfl)
        · have hf := ob_pos c3 hf
          refine lv_iload_n hx hb dX11_nth_24 rfl (lv_at hl 3 rfl) ?_
          obtain rfl := Option.some.inj hf
          exact hret _ _ _ _ dX11_nth_25 hP hD hS
set_option maxHeartbeats 4000000 in
set_option maxRecDepth 100000 in
theorem c_X11_nth (l : Launch) (D : va_G) (cyI cyJ cyZ : ClassId) (x0 : Int32) (x1 : Int32) (q : Int32) (hf : f_X11_nth x0 x1 = some q) : kMi l yX11_nth wsX11_nth rm_X11_nth D (kTy cyI cyJ cyZ) [.int x0, .int x1] (wd_X11_nth cyI cyJ cyZ) (wd_X11_nth cyI cyJ cyZ) q := by
  refine kMi_of (cc := cX11_nth) (nL := 4) (own := RX11) (by decide) rfl rfl (Nat.le_of_ble_eq_true rfl) ?_
  intro p e s m below meth c A Q ls C hret hP hD hS hl
  have hl : lv_has ls 4 [(0, .int x0), (1, .int x1)] := hl
  unfold f_X11_nth at hf
  obtain ⟨hx, hb, hml, hown, hts, hK, hA⟩ := id C
  refine lv_iconst (v := (0 : Int32)) hx hb dX11_nth_0 (by decide) ?_
  refine lv_istore_n (lv' := [(2, .int (0 : Int32)), (0, .int x0), (1, .int x1)]) hx hb dX11_nth_1 rfl hl (by decide) rfl (fun ls hl => ?_)
  refine lv_iconst (v := (0 : Int32)) hx hb dX11_nth_2 (by decide) ?_
  refine lv_istore_n (lv' := [(3, .int (0 : Int32)), (2, .int (0 : Int32)), (0, .int x0), (1, .int x1)]) hx hb dX11_nth_3 rfl hl (by decide) rfl (fun ls hl => ?_)
  refine wl_X11_nth_4 C hret (fun q4 H locs ls hf hP hD hS hl => ?_) FU (0 : Int32) (0 : Int32) _ _ _ hf hP hD hS (lv_sub hl [2, 3, 1, 0] rfl)
  refine lv_bipush (v := (-6 : Int32)) hx hb dX11_nth_35 (by decide) ?_
  obtain rfl := Option.some.inj hf
  exact hret _ _ _ _ dX11_nth_37 hP hD hS
abbrev rm_X11_choose : Room := { frames := 4, cells := 0, slots := 0, locals := 105 }
abbrev wd_X11_choose (cyI cyJ cyZ : ClassId) (a_this a_sets a_papers a_worths a_sign a_hallSign a_chosen a_upper a_lower : Nat) (v_heaps : Int32) (v_seats : Int32) (v_signs : Int32) (v_hallMany : Int32) (v_chosenSet : Int32) (v_paidSeats : Int32) (v_rhoUp : Int64) (v_rhoBy : Int64) (v_breachGroup : Int32) (v_chosen : Nat → Int32) (v_hallSign : Nat → Int32) (v_lower : Nat → Int64) (v_papers : Nat → Int32) (v_sets : Nat → Int32) (v_upper : Nat → Int64) (v_worths : Nat → Int32) : va_W := [(a_this, .inr (10, [.int v_heaps, .ref a_sets, .ref a_papers, .int v_seats, .ref a_worths, .int v_signs, .ref a_sign, .int v_hallMany, .ref a_hallSign, .ref a_chosen, .int v_chosenSet, .int v_paidSeats, .ref a_upper, .ref a_lower, .long v_rhoUp, .long v_rhoBy, .int v_breachGroup])), (a_chosen, .inl (cyI, 8, .inl v_chosen)), (a_hallSign, .inl (cyI, 40, .inl v_hallSign)), (a_lower, .inl (cyJ, 5, .inr (.inl v_lower))), (a_papers, .inl (cyI, 7, .inl v_papers)), (a_sets, .inl (cyI, 7, .inl v_sets)), (a_upper, .inl (cyJ, 35, .inr (.inl v_upper))), (a_worths, .inl (cyI, 4, .inl v_worths))]
def f_X11_choose (x1 : Int32) (x2 : Int32) (v_heaps : Int32) (v_seats : Int32) (v_hallMany : Int32) (v_chosenSet : Int32) (v_paidSeats : Int32) (v_rhoUp : Int64) (v_rhoBy : Int64) (v_chosen : Nat → Int32) (v_hallSign : Nat → Int32) (v_lower : Nat → Int64) (v_papers : Nat → Int32) (v_sets : Nat → Int32) (v_upper : Nat → Int64) (v_worths : Nat → Int32) : Option (Int32 × Int32 × Int32 × Int64 × Int64 × (Nat → Int32) × (Nat → Int64) × (Nat → Int64)) := (f_X11_isWay x1).bind (fun q1 => (if q1 = 0 then some ((-1 : Int32), v_chosenSet, v_paidSeats, v_rhoUp, v_rhoBy, v_chosen, v_lower, v_upper) else (f_X11_layWay x1 v_heaps v_seats v_hallMany v_chosenSet v_paidSeats v_rhoUp v_rhoBy v_chosen v_hallSign v_lower v_papers v_sets v_upper v_worths).bind (fun q3 => (if x2 = (-1 : Int32) then some (q3.1, q3.1, q3.2.1, q3.2.2.1, q3.2.2.2.1, q3.2.2.2.2.1, q3.2.2.2.2.2.1, q3.2.2.2.2.2.2) else (if x1 ≤ (3 : Int32) then (f_X11_in x2 (0 : Int32) (v_seats - (1 : Int32))).bind (fun q6 => (if q6 = 0 then some ((-6 : Int32), q3.1, q3.2.1, q3.2.2.1, q3.2.2.2.1, q3.2.2.2.2.1, q3.2.2.2.2.2.1, q3.2.2.2.2.2.2) else (if ob_in x2 8 = true then some ((q3.2.2.2.2.1 x2.toNatClampNeg), q3.1, q3.2.1, q3.2.2.1, q3.2.2.2.1, q3.2.2.2.2.1, q3.2.2.2.2.2.1, q3.2.2.2.2.2.2) else none))) else (f_X11_nth q3.1 x2).bind (fun q9 => some (q9, q3.1, q3.2.1, q3.2.2.1, q3.2.2.2.1, q3.2.2.2.2.1, q3.2.2.2.2.2.1, q3.2.2.2.2.2.2)))))))
set_option maxHeartbeats 4000000 in
set_option maxRecDepth 100000 in
theorem c_X11_choose (l : Launch) (D : va_G) (cyI cyJ cyZ : ClassId) (a_this a_sets a_papers a_worths a_sign a_hallSign a_chosen a_upper a_lower : Nat) (v_heaps : Int32) (v_seats : Int32) (v_signs : Int32) (v_hallMany : Int32) (v_chosenSet : Int32) (v_paidSeats : Int32) (v_rhoUp : Int64) (v_rhoBy : Int64) (v_breachGroup : Int32) (v_chosen : Nat → Int32) (v_hallSign : Nat → Int32) (v_lower : Nat → Int64) (v_papers : Nat → Int32) (v_sets : Nat → Int32) (v_upper : Nat → Int64) (v_worths : Nat → Int32) (x1 : Int32) (x2 : Int32) (q : Int32 × Int32 × Int32 × Int64 × Int64 × (Nat → Int32) × (Nat → Int64) × (Nat → Int64)) (hf : f_X11_choose x1 x2 v_heaps v_seats v_hallMany v_chosenSet v_paidSeats v_rhoUp v_rhoBy v_chosen v_hallSign v_lower v_papers v_sets v_upper v_worths = some q) : kMi l yX11_choose wsX11_choose rm_X11_choose D (kTy cyI cyJ cyZ) [.ref a_this, .int x1, .int x2] (wd_X11_choose cyI cyJ cyZ a_this a_sets a_papers a_worths a_sign a_hallSign a_chosen a_upper a_lower v_heaps v_seats v_signs v_hallMany v_chosenSet v_paidSeats v_rhoUp v_rhoBy v_breachGroup v_chosen v_hallSign v_lower v_papers v_sets v_upper v_worths) (wd_X11_choose cyI cyJ cyZ a_this a_sets a_papers a_worths a_sign a_hallSign a_chosen a_upper a_lower v_heaps v_seats v_signs v_hallMany q.2.1 q.2.2.1 q.2.2.2.1 q.2.2.2.2.1 v_breachGroup q.2.2.2.2.2.1 v_hallSign q.2.2.2.2.2.2.1 v_papers v_sets q.2.2.2.2.2.2.2 v_worths) q.1 := by
  refine kMi_of (cc := cX11_choose) (nL := 3) (own := RX11) (by decide) rfl rfl (Nat.le_of_ble_eq_true rfl) ?_
  intro p e s m below meth c A Q ls C hret hP hD hS hl
  have hl : lv_has ls 3 [(0, .ref a_this), (1, .int x1), (2, .int x2)] := hl
  unfold f_X11_choose at hf
  obtain ⟨hx, hb, hml, hown, hts, hK, hA⟩ := id C
  have iX11 : ∀ w ∈ u_ws RX11 TX11 17, w ∈ wsX11_choose := by decide +kernel
  have fl16 := hts (.fieldLink RX11 16 "FairSeatsModel" "seats" "I") (by decide +kernel)
  have fl29 := hts (.fieldLink RX11 29 "FairSeatsModel" "chosen" "[I") (by decide +kernel)
  have fl76 := hts (.fieldLink RX11 76 "FairSeatsModel" "chosenSet" "I") (by decide +kernel)
  have cw42 := va_cwS (R := rm_X11_choose) (rm := rm_X11_in) 3 hts gX11_choose_X11_in rfl rfl rfl (by decide +kernel) ⟨Nat.le_of_ble_eq_true rfl, Nat.le_of_ble_eq_true rfl⟩
  have cw129 := va_cwS (R := rm_X11_choose) (rm := rm_X11_isWay) 1 hts gX11_choose_X11_isWay rfl rfl rfl (by decide +kernel) ⟨Nat.le_of_ble_eq_true rfl, Nat.le_of_ble_eq_true rfl⟩
  have cw132 := cwV (R := rm_X11_choose) (rm := rm_X11_layWay) 1 hts gX11_choose_X11_layWay rfl rfl rfl (by decide +kernel) ⟨Nat.le_of_ble_eq_true rfl, Nat.le_of_ble_eq_true rfl⟩
  have cw135 := va_cwS (R := rm_X11_choose) (rm := rm_X11_nth) 2 hts gX11_choose_X11_nth rfl rfl rfl (by decide +kernel) ⟨Nat.le_of_ble_eq_true rfl, Nat.le_of_ble_eq_true rfl⟩
  refine lv_iload_n hx hb dX11_choose_0 rfl (lv_at hl 1 rfl) ?_
  obtain ⟨q1, hq1, hf⟩ := ob_bind hf
  refine k_Sz (wo := (wd_X11_choose cyI cyJ cyZ a_this a_sets a_papers a_worths a_sign a_hallSign a_chosen a_upper a_lower v_heaps v_seats v_signs v_hallMany v_chosenSet v_paidSeats v_rhoUp v_rhoBy v_breachGroup v_chosen v_hallSign v_lower v_papers v_sets v_upper v_worths)) (As := [.int x1]) (rest := []) C (c_X11_isWay l D cyI cyJ cyZ   x1 q1 hq1) cw129 hP hD hS [] [0, 1, 2, 3, 4, 5, 6, 7] [0, 1, 2, 3, 4, 5, 6, 7] rfl rfl rfl (by decide) rfl rfl hl.1 (Nat.le_of_ble_eq_true rfl) dX11_choose_1 ⟨Nat.zero_le _, Nat.zero_le _⟩ (fun H locs zq1 hP hD hS => ?_)
  refine lv_if_ne (tgt := 9) hx hb dX11_choose_4 (by decide) (fun c2 => ?_) (fun c2 => ?_)
  · have hf := ob_neg c2 hf
    refine lv_aload_n hx hb dX11_choose_9 rfl (lv_at hl 0 rfl) ?_
    refine lv_iload_n hx hb dX11_choose_10 rfl (lv_at hl 1 rfl) ?_
    obtain ⟨q3, hq3, hf⟩ := ob_bind hf
    refine k_Vv (wo := (wd_X11_choose cyI cyJ cyZ a_this a_sets a_papers a_worths a_sign a_hallSign a_chosen a_upper a_lower v_heaps v_seats v_signs v_hallMany q3.1 q3.2.1 q3.2.2.1 q3.2.2.2.1 v_breachGroup q3.2.2.2.2.1 v_hallSign q3.2.2.2.2.2.1 v_papers v_sets q3.2.2.2.2.2.2 v_worths)) (As := [.int x1]) (rest := []) C (c_X11_layWay l D cyI cyJ cyZ a_this a_sets a_papers a_worths a_sign a_hallSign a_chosen a_upper a_lower v_heaps v_seats v_signs v_hallMany v_chosenSet v_paidSeats v_rhoUp v_rhoBy v_breachGroup v_chosen v_hallSign v_lower v_papers v_sets v_upper v_worths x1 q3 hq3) cw132 hP hD hS [0, 1, 2, 3, 4, 5, 6, 7] [] [0, 1, 2, 3, 4, 5, 6, 7] rfl rfl rfl (by decide) 0 (ci := 10) rfl rfl rfl rfl rfl hl.1 (Nat.le_of_ble_eq_true rfl) dX11_choose_11 ⟨Nat.zero_le _, Nat.zero_le _⟩ (fun H locs hP hD hS => ?_)
    refine lv_iload_n hx hb dX11_choose_14 rfl (lv_at hl 2 rfl) ?_
    refine lv_iconst (v := (-1 : Int32)) hx hb dX11_choose_15 (by decide) ?_
    refine lv_icmp_ne (tgt := 26) hx hb dX11_choose_16 (by decide) (fun c4 => ?_) (fun c4 => ?_)
    · have hf := ob_neg c4 hf
      refine lv_iload_n hx hb dX11_choose_26 rfl (lv_at hl 1 rfl) ?_
      refine lv_iconst (v := (3 : Int32)) hx hb dX11_choose_27 (by decide) ?_
      refine lv_icmp_le (tgt := 42) hx hb dX11_choose_28 (by decide) (fun c5 => ?_) (fun c5 => ?_)
      · have hf := ob_pos c5 hf
        refine lv_iload_n hx hb dX11_choose_42 rfl (lv_at hl 2 rfl) ?_
        refine lv_iconst (v := (0 : Int32)) hx hb dX11_choose_43 (by decide) ?_
        refine lv_aload_n hx hb dX11_choose_44 rfl (lv_at hl 0 rfl) ?_
        refine va_get (D := D) (ci := 10) (v := .int v_seats) (C := RX11) (T := TX11) (N := 17) hx hb hts iX11 hown hK hP 0 rfl rfl 3 (by decide) fl16 (fun _ h9 => h9) rfl dX11_choose_45 ?_
        refine lv_iconst (v := (1 : Int32)) hx hb dX11_choose_48 (by decide) ?_
        refine lv_isub hx hb dX11_choose_49 ?_
        obtain ⟨q6, hq6, hf⟩ := ob_bind hf
        refine k_Sz (wo := (wd_X11_choose cyI cyJ cyZ a_this a_sets a_papers a_worths a_sign a_hallSign a_chosen a_upper a_lower v_heaps v_seats v_signs v_hallMany q3.1 q3.2.1 q3.2.2.1 q3.2.2.2.1 v_breachGroup q3.2.2.2.2.1 v_hallSign q3.2.2.2.2.2.1 v_papers v_sets q3.2.2.2.2.2.2 v_worths)) (As := [.int x2, .int (0 : Int32), .int (v_seats - (1 : Int32))]) (rest := []) C (c_X11_in l D cyI cyJ cyZ   x2 (0 : Int32) (v_seats - (1 : Int32)) q6 hq6) cw42 hP hD hS [] [0, 1, 2, 3, 4, 5, 6, 7] [0, 1, 2, 3, 4, 5, 6, 7] rfl rfl rfl (by decide) rfl rfl hl.1 (Nat.le_of_ble_eq_true rfl) dX11_choose_50 ⟨Nat.zero_le _, Nat.zero_le _⟩ (fun H locs zq6 hP hD hS => ?_)
        refine lv_if_eq (tgt := 65) hx hb dX11_choose_53 (by decide) (fun c7 => ?_) (fun c7 => ?_)
        · have hf := ob_pos c7 hf
          refine lv_bipush (v := (-6 : Int32)) hx hb dX11_choose_65 (by decide) ?_
          obtain rfl := Option.some.inj hf
          exact hret _ _ _ _ dX11_choose_67 hP hD hS
        · have hf := ob_neg c7 hf
          refine lv_aload_n hx hb dX11_choose_56 rfl (lv_at hl 0 rfl) ?_
          refine va_get (D := D) (ci := 10) (v := .ref a_chosen) (C := RX11) (T := TX11) (N := 17) hx hb hts iX11 hown hK hP 0 rfl rfl 9 (by decide) fl29 (fun _ h9 => h9) rfl dX11_choose_57 ?_
          refine lv_iload_n hx hb dX11_choose_60 rfl (lv_at hl 2 rfl) ?_
          obtain ⟨h8, hf⟩ := og_in hf
          refine va_iald hx hb hK hP 1 0 rfl rfl h8 dX11_choose_61 ?_
          refine lv_goto (tgt := 67) hx hb dX11_choose_62 (by decide) ?_
          obtain rfl := Option.some.inj hf
          exact hret _ _ _ _ dX11_choose_67 hP hD hS
      · have hf := ob_neg c5 hf
        refine lv_aload_n hx hb dX11_choose_31 rfl (lv_at hl 0 rfl) ?_
        refine va_get (D := D) (ci := 10) (v := .int q3.1) (C := RX11) (T := TX11) (N := 17) hx hb hts iX11 hown hK hP 0 rfl rfl 10 (by decide) fl76 (fun _ h9 => h9) rfl dX11_choose_32 ?_
        refine lv_iload_n hx hb dX11_choose_35 rfl (lv_at hl 2 rfl) ?_
        obtain ⟨q9, hq9, hf⟩ := ob_bind hf
        refine k_Si (wo := (wd_X11_choose cyI cyJ cyZ a_this a_sets a_papers a_worths a_sign a_hallSign a_chosen a_upper a_lower v_heaps v_seats v_signs v_hallMany q3.1 q3.2.1 q3.2.2.1 q3.2.2.2.1 v_breachGroup q3.2.2.2.2.1 v_hallSign q3.2.2.2.2.2.1 v_papers v_sets q3.2.2.2.2.2.2 v_worths)) (As := [.int q3.1, .int x2]) (rest := []) C (c_X11_nth l D cyI cyJ cyZ   q3.1 x2 q9 hq9) cw135 hP hD hS [] [0, 1, 2, 3, 4, 5, 6, 7] [0, 1, 2, 3, 4, 5, 6, 7] rfl rfl rfl (by decide) rfl rfl hl.1 (Nat.le_of_ble_eq_true rfl) dX11_choose_36 ⟨Nat.zero_le _, Nat.zero_le _⟩ (fun H locs hP hD hS => ?_)
        refine lv_goto (tgt := 67) hx hb dX11_choose_39 (by decide) ?_
        obtain rfl := Option.some.inj hf
        exact hret _ _ _ _ dX11_choose_67 hP hD hS
    · have hf := ob_pos c4 hf
      refine lv_aload_n hx hb dX11_choose_19 rfl (lv_at hl 0 rfl) ?_
      refine va_get (D := D) (ci := 10) (v := .int q3.1) (C := RX11) (T := TX11) (N := 17) hx hb hts iX11 hown hK hP 0 rfl rfl 10 (by decide) fl76 (fun _ h9 => h9) rfl dX11_choose_20 ?_
      refine lv_goto (tgt := 67) hx hb dX11_choose_23 (by decide) ?_
      obtain rfl := Option.some.inj hf
      exact hret _ _ _ _ dX11_choose_67 hP hD hS
  · have hf := ob_pos c2 hf
    refine lv_iconst (v := (-1 : Int32)) hx hb dX11_choose_7 (by decide) ?_
    obtain rfl := Option.some.inj hf
    exact hret _ _ _ _ dX11_choose_8 hP hD hS
abbrev rm_X11_term : Room := { frames := 0, cells := 0, slots := 0, locals := 0 }
abbrev wd_X11_term (cyI cyJ cyZ : ClassId) : va_W := []
def lp_X11_term_6 (y0 : Int64) (y2 : Int64) (y4 : Int32) : Nat → Int64 → Int64 → Option (Int64)
  | 0, _, _ => none
  | n + 1, y5, y7 => (if (lg_cmp y7 (0 : Int64)) = 0 then some y5 else (if y7 = 0 then none else lp_X11_term_6 y0 y2 y4 n y7 (y5 - y5 / y7 * y7)))
def f_X11_term (x0 : Int64) (x2 : Int64) (x4 : Int32) : Option (Int64) := (lp_X11_term_6 x0 x2 x4 FU x0 x2).bind (fun q3 => (if x4 = 0 then (if q3 = 0 then none else some (x0 / q3)) else (if q3 = 0 then none else some (x2 / q3))))
set_option maxHeartbeats 4000000 in
set_option maxRecDepth 100000 in
theorem wl_X11_term_6 {p : Program} {l : Launch} {e : Env} {s : State} {m : MethodId} {args : Array Value} {below : List Frame} {meth : Method} {c : Code} {A : Nat → Prop} {Q : State → Prop} {D : va_G} {cyI cyJ cyZ : ClassId} {y0 : Int64} {y2 : Int64} {y4 : Int32} (C : kC p s m args c cX11_term 11 RX11 wsX11_term D (kTy cyI cyJ cyZ) A) :
    ∀ (n : Nat) (y5 : Int64) (y7 : Int64) (q : Int64) (H : Heap) (locs : List Loc) (ls : Array Slot), lp_X11_term_6 y0 y2 y4 n y5 y7 = some q → (∀ (H : Heap) (locs : List Loc) (ls : Array Slot), va_P D vwCl (wd_X11_term cyI cyJ cyZ) H → va_D A (wd_X11_term cyI cyJ cyZ) → va_S A s.heap H locs → lv_has ls 11 [(0, .long y0), (2, .long y2), (4, .int y4), (5, .long q)] → W p l e rm_X11_term s m args below meth c H locs 0 0 Q (F0 m 31 ls [])) → va_P D vwCl (wd_X11_term cyI cyJ cyZ) H → va_D A (wd_X11_term cyI cyJ cyZ) → va_S A s.heap H locs → lv_has ls 11 [(0, .long y0), (2, .long y2), (4, .int y4), (5, .long y5), (7, .long y7)] → W p l e rm_X11_term s m args below meth c H locs 0 0 Q (F0 m 6 ls []) := by
  obtain ⟨hx, hb, hml, hown, hts, hK, hA⟩ := id C
  intro n
  induction n with
  | zero =>
    intro y5 y7 q H locs ls hf K hP hD hS hl
    rw [lp_X11_term_6] at hf
    cases hf
  | succ n ih =>
    intro y5 y7 q H locs ls hf K hP hD hS hl
    rw [lp_X11_term_6] at hf
    refine lv_lload hx hb dX11_term_6 (lv_at hl 4 rfl) ?_
    refine lv_lconst (v := 0) hx hb dX11_term_8 (by decide) ?_
    refine W.lcmp hx hb dX11_term_9 ?_
    refine lv_if_eq (tgt := 31) hx hb dX11_term_10 (by decide) (fun c1 => ?_) (fun c1 => ?_)
    · have hf := ob_pos c1 hf
      obtain rfl := Option.some.inj hf
      exact K _ _ _ hP hD hS (lv_sub hl [0, 1, 2, 3] rfl)
    · have hf := ob_neg c1 hf
      refine lv_lload hx hb dX11_term_13 (lv_at hl 3 rfl) ?_
      refine lv_lload hx hb dX11_term_15 (lv_at hl 4 rfl) ?_
      obtain ⟨z2, hf⟩ := og_nz hf
      refine lv_lrem hx hb dX11_term_17 z2 ?_
      refine lv_lstore (lv' := [(9, .long (y5 - y5 / y7 * y7)), (0, .long y0), (2, .long y2), (4, .int y4), (5, .long y5), (7, .long y7)]) hx hb dX11_term_18 hl (by decide) rfl (fun ls hl => ?_)
      refine lv_lload hx hb dX11_term_20 (lv_at hl 5 rfl) ?_
      refine lv_lstore (lv' := [(5, .long y7), (9, .long (y5 - y5 / y7 * y7)), (0, .long y0), (2, .long y2), (4, .int y4), (7, .long y7)]) hx hb dX11_term_22 hl (by decide) rfl (fun ls hl => ?_)
      refine lv_lload hx hb dX11_term_24 (lv_at hl 1 rfl) ?_
      refine lv_lstore (lv' := [(7, .long (y5 - y5 / y7 * y7)), (5, .long y7), (9, .long (y5 - y5 / y7 * y7)), (0, .long y0), (2, .long y2), (4, .int y4)]) hx hb dX11_term_26 hl (by decide) rfl (fun ls hl => ?_)
      refine lv_goto (tgt := 6) hx hb dX11_term_28 (by decide) ?_
      exact ih y7 (y5 - y5 / y7 * y7) _ _ _ _ hf K hP hD hS (lv_sub hl [3, 4, 5, 1, 0] rfl)
set_option maxHeartbeats 4000000 in
set_option maxRecDepth 100000 in
theorem c_X11_term (l : Launch) (D : va_G) (cyI cyJ cyZ : ClassId) (x0 : Int64) (x2 : Int64) (x4 : Int32) (q : Int64) (hf : f_X11_term x0 x2 x4 = some q) : kMl l yX11_term wsX11_term rm_X11_term D (kTy cyI cyJ cyZ) [.long x0, .long x2, .int x4] (wd_X11_term cyI cyJ cyZ) (wd_X11_term cyI cyJ cyZ) q := by
  refine kMl_of (cc := cX11_term) (nL := 11) (own := RX11) (by decide) rfl rfl (Nat.le_of_ble_eq_true rfl) ?_
  intro p e s m below meth c A Q ls C hret hP hD hS hl
  have hl : lv_has ls 11 [(0, .long x0), (2, .long x2), (4, .int x4)] := hl
  unfold f_X11_term at hf
  obtain ⟨hx, hb, hml, hown, hts, hK, hA⟩ := id C
  refine lv_lload_n hx hb dX11_term_0 rfl (lv_at hl 0 rfl) ?_
  refine lv_lstore (lv' := [(5, .long x0), (0, .long x0), (2, .long x2), (4, .int x4)]) hx hb dX11_term_1 hl (by decide) rfl (fun ls hl => ?_)
  refine lv_lload_n hx hb dX11_term_3 rfl (lv_at hl 2 rfl) ?_
  refine lv_lstore (lv' := [(7, .long x2), (5, .long x0), (0, .long x0), (2, .long x2), (4, .int x4)]) hx hb dX11_term_4 hl (by decide) rfl (fun ls hl => ?_)
  obtain ⟨q3, hq3, hf⟩ := ob_bind hf
  refine wl_X11_term_6 C FU x0 x2 _ _ _ _ hq3 (fun H locs ls hP hD hS hl => ?_) hP hD hS (lv_sub hl [2, 3, 4, 1, 0] rfl)
  refine lv_iload hx hb dX11_term_31 (lv_at hl 2 rfl) ?_
  refine lv_if_ne (tgt := 43) hx hb dX11_term_33 (by decide) (fun c4 => ?_) (fun c4 => ?_)
  · have hf := ob_neg c4 hf
    refine lv_lload_n hx hb dX11_term_43 rfl (lv_at hl 1 rfl) ?_
    refine lv_lload hx hb dX11_term_44 (lv_at hl 3 rfl) ?_
    obtain ⟨z5, hf⟩ := og_nz hf
    refine lv_ldiv hx hb dX11_term_46 z5 ?_
    obtain rfl := Option.some.inj hf
    exact hret _ _ _ _ dX11_term_47 hP hD hS
  · have hf := ob_pos c4 hf
    refine lv_lload_n hx hb dX11_term_36 rfl (lv_at hl 0 rfl) ?_
    refine lv_lload hx hb dX11_term_37 (lv_at hl 3 rfl) ?_
    obtain ⟨z6, hf⟩ := og_nz hf
    refine lv_ldiv hx hb dX11_term_39 z6 ?_
    refine lv_goto (tgt := 47) hx hb dX11_term_40 (by decide) ?_
    obtain rfl := Option.some.inj hf
    exact hret _ _ _ _ dX11_term_47 hP hD hS
abbrev rm_X11_behind : Room := { frames := 4, cells := 0, slots := 0, locals := 105 }
abbrev wd_X11_behind (cyI cyJ cyZ : ClassId) (a_this a_sets a_papers a_worths a_sign a_hallSign a_chosen a_upper a_lower : Nat) (v_heaps : Int32) (v_seats : Int32) (v_signs : Int32) (v_hallMany : Int32) (v_chosenSet : Int32) (v_paidSeats : Int32) (v_rhoUp : Int64) (v_rhoBy : Int64) (v_breachGroup : Int32) (v_chosen : Nat → Int32) (v_hallSign : Nat → Int32) (v_lower : Nat → Int64) (v_papers : Nat → Int32) (v_sets : Nat → Int32) (v_upper : Nat → Int64) (v_worths : Nat → Int32) : va_W := [(a_this, .inr (10, [.int v_heaps, .ref a_sets, .ref a_papers, .int v_seats, .ref a_worths, .int v_signs, .ref a_sign, .int v_hallMany, .ref a_hallSign, .ref a_chosen, .int v_chosenSet, .int v_paidSeats, .ref a_upper, .ref a_lower, .long v_rhoUp, .long v_rhoBy, .int v_breachGroup])), (a_chosen, .inl (cyI, 8, .inl v_chosen)), (a_hallSign, .inl (cyI, 40, .inl v_hallSign)), (a_lower, .inl (cyJ, 5, .inr (.inl v_lower))), (a_papers, .inl (cyI, 7, .inl v_papers)), (a_sets, .inl (cyI, 7, .inl v_sets)), (a_upper, .inl (cyJ, 35, .inr (.inl v_upper))), (a_worths, .inl (cyI, 4, .inl v_worths))]
def f_X11_behind (x1 : Int32) (x2 : Int32) (x3 : Int32) (x4 : Int32) (v_heaps : Int32) (v_seats : Int32) (v_hallMany : Int32) (v_chosenSet : Int32) (v_paidSeats : Int32) (v_rhoUp : Int64) (v_rhoBy : Int64) (v_chosen : Nat → Int32) (v_hallSign : Nat → Int32) (v_lower : Nat → Int64) (v_papers : Nat → Int32) (v_sets : Nat → Int32) (v_upper : Nat → Int64) (v_worths : Nat → Int32) : Option (Int64 × Int32 × Int32 × Int64 × Int64 × (Nat → Int32) × (Nat → Int64) × (Nat → Int64)) := (f_X11_isHeap x2 v_heaps).bind (fun q1 => (if q1 = 0 then some ((-1000000000000000001 : Int64), v_chosenSet, v_paidSeats, v_rhoUp, v_rhoBy, v_chosen, v_lower, v_upper) else (f_X11_in x3 (0 : Int32) v_seats).bind (fun q3 => (if q3 = 0 then some ((-1000000000000000002 : Int64), v_chosenSet, v_paidSeats, v_rhoUp, v_rhoBy, v_chosen, v_lower, v_upper) else (f_X11_in x4 (0 : Int32) (1 : Int32)).bind (fun q5 => (if q5 = 0 then some ((-1000000000000000002 : Int64), v_chosenSet, v_paidSeats, v_rhoUp, v_rhoBy, v_chosen, v_lower, v_upper) else (f_X11_layWay x1 v_heaps v_seats v_hallMany v_chosenSet v_paidSeats v_rhoUp v_rhoBy v_chosen v_hallSign v_lower v_papers v_sets v_upper v_worths).bind (fun q7 => (if ob_in (((7 : Int32) * x3) + x2) 35 = true then (if ob_in x3 5 = true then (f_X11_term (q7.2.2.2.2.2.2 (((7 : Int32) * x3) + x2).toNatClampNeg) (q7.2.2.2.2.2.1 x3.toNatClampNeg) x4).bind (fun q10 => some (q10, q7.1, q7.2.1, q7.2.2.1, q7.2.2.2.1, q7.2.2.2.2.1, q7.2.2.2.2.2.1, q7.2.2.2.2.2.2)) else none) else none))))))))
set_option maxHeartbeats 4000000 in
set_option maxRecDepth 100000 in
theorem c_X11_behind (l : Launch) (D : va_G) (cyI cyJ cyZ : ClassId) (a_this a_sets a_papers a_worths a_sign a_hallSign a_chosen a_upper a_lower : Nat) (v_heaps : Int32) (v_seats : Int32) (v_signs : Int32) (v_hallMany : Int32) (v_chosenSet : Int32) (v_paidSeats : Int32) (v_rhoUp : Int64) (v_rhoBy : Int64) (v_breachGroup : Int32) (v_chosen : Nat → Int32) (v_hallSign : Nat → Int32) (v_lower : Nat → Int64) (v_papers : Nat → Int32) (v_sets : Nat → Int32) (v_upper : Nat → Int64) (v_worths : Nat → Int32) (x1 : Int32) (x2 : Int32) (x3 : Int32) (x4 : Int32) (q : Int64 × Int32 × Int32 × Int64 × Int64 × (Nat → Int32) × (Nat → Int64) × (Nat → Int64)) (hf : f_X11_behind x1 x2 x3 x4 v_heaps v_seats v_hallMany v_chosenSet v_paidSeats v_rhoUp v_rhoBy v_chosen v_hallSign v_lower v_papers v_sets v_upper v_worths = some q) : kMl l yX11_behind wsX11_behind rm_X11_behind D (kTy cyI cyJ cyZ) [.ref a_this, .int x1, .int x2, .int x3, .int x4] (wd_X11_behind cyI cyJ cyZ a_this a_sets a_papers a_worths a_sign a_hallSign a_chosen a_upper a_lower v_heaps v_seats v_signs v_hallMany v_chosenSet v_paidSeats v_rhoUp v_rhoBy v_breachGroup v_chosen v_hallSign v_lower v_papers v_sets v_upper v_worths) (wd_X11_behind cyI cyJ cyZ a_this a_sets a_papers a_worths a_sign a_hallSign a_chosen a_upper a_lower v_heaps v_seats v_signs v_hallMany q.2.1 q.2.2.1 q.2.2.2.1 q.2.2.2.2.1 v_breachGroup q.2.2.2.2.2.1 v_hallSign q.2.2.2.2.2.2.1 v_papers v_sets q.2.2.2.2.2.2.2 v_worths) q.1 := by
  refine kMl_of (cc := cX11_behind) (nL := 5) (own := RX11) (by decide) rfl rfl (Nat.le_of_ble_eq_true rfl) ?_
  intro p e s m below meth c A Q ls C hret hP hD hS hl
  have hl : lv_has ls 5 [(0, .ref a_this), (1, .int x1), (2, .int x2), (3, .int x3), (4, .int x4)] := hl
  unfold f_X11_behind at hf
  obtain ⟨hx, hb, hml, hown, hts, hK, hA⟩ := id C
  have iX11 : ∀ w ∈ u_ws RX11 TX11 17, w ∈ wsX11_behind := by decide +kernel
  have fl16 := hts (.fieldLink RX11 16 "FairSeatsModel" "seats" "I") (by decide +kernel)
  have fl32 := hts (.fieldLink RX11 32 "FairSeatsModel" "upper" "[J") (by decide +kernel)
  have fl36 := hts (.fieldLink RX11 36 "FairSeatsModel" "lower" "[J") (by decide +kernel)
  have cw42 := va_cwS (R := rm_X11_behind) (rm := rm_X11_in) 3 hts gX11_behind_X11_in rfl rfl rfl (by decide +kernel) ⟨Nat.le_of_ble_eq_true rfl, Nat.le_of_ble_eq_true rfl⟩
  have cw46 := cwV (R := rm_X11_behind) (rm := rm_X11_isHeap) 1 hts gX11_behind_X11_isHeap rfl rfl rfl (by decide +kernel) ⟨Nat.le_of_ble_eq_true rfl, Nat.le_of_ble_eq_true rfl⟩
  have cw132 := cwV (R := rm_X11_behind) (rm := rm_X11_layWay) 1 hts gX11_behind_X11_layWay rfl rfl rfl (by decide +kernel) ⟨Nat.le_of_ble_eq_true rfl, Nat.le_of_ble_eq_true rfl⟩
  have cw143 := va_cwS (R := rm_X11_behind) (rm := rm_X11_term) 3 hts gX11_behind_X11_term rfl rfl rfl (by decide +kernel) ⟨Nat.le_of_ble_eq_true rfl, Nat.le_of_ble_eq_true rfl⟩
  refine lv_aload_n hx hb dX11_behind_0 rfl (lv_at hl 0 rfl) ?_
  refine lv_iload_n hx hb dX11_behind_1 rfl (lv_at hl 2 rfl) ?_
  obtain ⟨q1, hq1, hf⟩ := ob_bind hf
  refine k_Vz (wo := (wd_X11_behind cyI cyJ cyZ a_this a_sets a_papers a_worths a_sign a_hallSign a_chosen a_upper a_lower v_heaps v_seats v_signs v_hallMany v_chosenSet v_paidSeats v_rhoUp v_rhoBy v_breachGroup v_chosen v_hallSign v_lower v_papers v_sets v_upper v_worths)) (As := [.int x2]) (rest := []) C (c_X11_isHeap l D cyI cyJ cyZ a_this a_sets a_papers a_worths a_sign a_hallSign a_chosen a_upper a_lower v_heaps v_seats v_signs v_hallMany v_chosenSet v_paidSeats v_rhoUp v_rhoBy v_breachGroup x2 q1 hq1) cw46 hP hD hS [0] [1, 2, 3, 4, 5, 6, 7] [7, 0, 1, 2, 3, 4, 5, 6] rfl rfl rfl (by decide) 0 (ci := 10) rfl rfl rfl rfl rfl hl.1 (Nat.le_of_ble_eq_true rfl) dX11_behind_2 ⟨Nat.zero_le _, Nat.zero_le _⟩ (fun H locs zq1 hP hD hS => ?_)
  refine lv_if_ne (tgt := 12) hx hb dX11_behind_5 (by decide) (fun c2 => ?_) (fun c2 => ?_)
  · have hf := ob_neg c2 hf
    refine lv_iload_n hx hb dX11_behind_12 rfl (lv_at hl 3 rfl) ?_
    refine lv_iconst (v := (0 : Int32)) hx hb dX11_behind_13 (by decide) ?_
    refine lv_aload_n hx hb dX11_behind_14 rfl (lv_at hl 0 rfl) ?_
    refine va_get (D := D) (ci := 10) (v := .int v_seats) (C := RX11) (T := TX11) (N := 17) hx hb hts iX11 hown hK hP 0 rfl rfl 3 (by decide) fl16 (fun _ h9 => h9) rfl dX11_behind_15 ?_
    obtain ⟨q3, hq3, hf⟩ := ob_bind hf
    refine k_Sz (wo := (wd_X11_behind cyI cyJ cyZ a_this a_sets a_papers a_worths a_sign a_hallSign a_chosen a_upper a_lower v_heaps v_seats v_signs v_hallMany v_chosenSet v_paidSeats v_rhoUp v_rhoBy v_breachGroup v_chosen v_hallSign v_lower v_papers v_sets v_upper v_worths)) (As := [.int x3, .int (0 : Int32), .int v_seats]) (rest := []) C (c_X11_in l D cyI cyJ cyZ   x3 (0 : Int32) v_seats q3 hq3) cw42 hP hD hS [] [0, 1, 2, 3, 4, 5, 6, 7] [0, 1, 2, 3, 4, 5, 6, 7] rfl rfl rfl (by decide) rfl rfl hl.1 (Nat.le_of_ble_eq_true rfl) dX11_behind_18 ⟨Nat.zero_le _, Nat.zero_le _⟩ (fun H locs zq3 hP hD hS => ?_)
    refine lv_if_eq (tgt := 34) hx hb dX11_behind_21 (by decide) (fun c4 => ?_) (fun c4 => ?_)
    · have hf := ob_pos c4 hf
      refine lv_ldc2 (v := (-1000000000000000002)) hx hb hown (hts (.constantLong RX11 141 (-1000000000000000002)) (by decide +kernel)) dX11_behind_34 ?_
      obtain rfl := Option.some.inj hf
      exact hret _ _ _ _ dX11_behind_37 hP hD hS
    · have hf := ob_neg c4 hf
      refine lv_iload hx hb dX11_behind_24 (lv_at hl 4 rfl) ?_
      refine lv_iconst (v := (0 : Int32)) hx hb dX11_behind_26 (by decide) ?_
      refine lv_iconst (v := (1 : Int32)) hx hb dX11_behind_27 (by decide) ?_
      obtain ⟨q5, hq5, hf⟩ := ob_bind hf
      refine k_Sz (wo := (wd_X11_behind cyI cyJ cyZ a_this a_sets a_papers a_worths a_sign a_hallSign a_chosen a_upper a_lower v_heaps v_seats v_signs v_hallMany v_chosenSet v_paidSeats v_rhoUp v_rhoBy v_breachGroup v_chosen v_hallSign v_lower v_papers v_sets v_upper v_worths)) (As := [.int x4, .int (0 : Int32), .int (1 : Int32)]) (rest := []) C (c_X11_in l D cyI cyJ cyZ   x4 (0 : Int32) (1 : Int32) q5 hq5) cw42 hP hD hS [] [0, 1, 2, 3, 4, 5, 6, 7] [0, 1, 2, 3, 4, 5, 6, 7] rfl rfl rfl (by decide) rfl rfl hl.1 (Nat.le_of_ble_eq_true rfl) dX11_behind_28 ⟨Nat.zero_le _, Nat.zero_le _⟩ (fun H locs zq5 hP hD hS => ?_)
      refine lv_if_ne (tgt := 38) hx hb dX11_behind_31 (by decide) (fun c6 => ?_) (fun c6 => ?_)
      · have hf := ob_neg c6 hf
        refine lv_aload_n hx hb dX11_behind_38 rfl (lv_at hl 0 rfl) ?_
        refine lv_iload_n hx hb dX11_behind_39 rfl (lv_at hl 1 rfl) ?_
        obtain ⟨q7, hq7, hf⟩ := ob_bind hf
        refine k_Vv (wo := (wd_X11_behind cyI cyJ cyZ a_this a_sets a_papers a_worths a_sign a_hallSign a_chosen a_upper a_lower v_heaps v_seats v_signs v_hallMany q7.1 q7.2.1 q7.2.2.1 q7.2.2.2.1 v_breachGroup q7.2.2.2.2.1 v_hallSign q7.2.2.2.2.2.1 v_papers v_sets q7.2.2.2.2.2.2 v_worths)) (As := [.int x1]) (rest := []) C (c_X11_layWay l D cyI cyJ cyZ a_this a_sets a_papers a_worths a_sign a_hallSign a_chosen a_upper a_lower v_heaps v_seats v_signs v_hallMany v_chosenSet v_paidSeats v_rhoUp v_rhoBy v_breachGroup v_chosen v_hallSign v_lower v_papers v_sets v_upper v_worths x1 q7 hq7) cw132 hP hD hS [0, 1, 2, 3, 4, 5, 6, 7] [] [0, 1, 2, 3, 4, 5, 6, 7] rfl rfl rfl (by decide) 0 (ci := 10) rfl rfl rfl rfl rfl hl.1 (Nat.le_of_ble_eq_true rfl) dX11_behind_40 ⟨Nat.zero_le _, Nat.zero_le _⟩ (fun H locs hP hD hS => ?_)
        refine lv_aload_n hx hb dX11_behind_43 rfl (lv_at hl 0 rfl) ?_
        refine va_get (D := D) (ci := 10) (v := .ref a_upper) (C := RX11) (T := TX11) (N := 17) hx hb hts iX11 hown hK hP 0 rfl rfl 12 (by decide) fl32 (fun _ h9 => h9) rfl dX11_behind_44 ?_
        refine lv_bipush (v := (7 : Int32)) hx hb dX11_behind_47 (by decide) ?_
        refine lv_iload_n hx hb dX11_behind_49 rfl (lv_at hl 3 rfl) ?_
        refine lv_imul hx hb dX11_behind_50 ?_
        refine lv_iload_n hx hb dX11_behind_51 rfl (lv_at hl 2 rfl) ?_
        refine lv_iadd hx hb dX11_behind_52 ?_
        obtain ⟨h8, hf⟩ := og_in hf
        refine va_lald hx hb hK hP 6 1 rfl rfl h8 dX11_behind_53 ?_
        refine lv_aload_n hx hb dX11_behind_54 rfl (lv_at hl 0 rfl) ?_
        refine va_get (D := D) (ci := 10) (v := .ref a_lower) (C := RX11) (T := TX11) (N := 17) hx hb hts iX11 hown hK hP 0 rfl rfl 13 (by decide) fl36 (fun _ h9 => h9) rfl dX11_behind_55 ?_
        refine lv_iload_n hx hb dX11_behind_58 rfl (lv_at hl 3 rfl) ?_
        obtain ⟨h9, hf⟩ := og_in hf
        refine va_lald hx hb hK hP 3 1 rfl rfl h9 dX11_behind_59 ?_
        refine lv_iload hx hb dX11_behind_60 (lv_at hl 4 rfl) ?_
        obtain ⟨q10, hq10, hf⟩ := ob_bind hf
        refine k_Sl (wo := (wd_X11_behind cyI cyJ cyZ a_this a_sets a_papers a_worths a_sign a_hallSign a_chosen a_upper a_lower v_heaps v_seats v_signs v_hallMany q7.1 q7.2.1 q7.2.2.1 q7.2.2.2.1 v_breachGroup q7.2.2.2.2.1 v_hallSign q7.2.2.2.2.2.1 v_papers v_sets q7.2.2.2.2.2.2 v_worths)) (As := [.long (q7.2.2.2.2.2.2 (((7 : Int32) * x3) + x2).toNatClampNeg), .long (q7.2.2.2.2.2.1 x3.toNatClampNeg), .int x4]) (rest := []) C (c_X11_term l D cyI cyJ cyZ   (q7.2.2.2.2.2.2 (((7 : Int32) * x3) + x2).toNatClampNeg) (q7.2.2.2.2.2.1 x3.toNatClampNeg) x4 q10 hq10) cw143 hP hD hS [] [0, 1, 2, 3, 4, 5, 6, 7] [0, 1, 2, 3, 4, 5, 6, 7] rfl rfl rfl (by decide) rfl rfl hl.1 (Nat.le_of_ble_eq_true rfl) dX11_behind_62 ⟨Nat.zero_le _, Nat.zero_le _⟩ (fun H locs hP hD hS => ?_)
        obtain rfl := Option.some.inj hf
        exact hret _ _ _ _ dX11_behind_65 hP hD hS
      · have hf := ob_pos c6 hf
        refine lv_ldc2 (v := (-1000000000000000002)) hx hb hown (hts (.constantLong RX11 141 (-1000000000000000002)) (by decide +kernel)) dX11_behind_34 ?_
        obtain rfl := Option.some.inj hf
        exact hret _ _ _ _ dX11_behind_37 hP hD hS
  · have hf := ob_pos c2 hf
    refine lv_ldc2 (v := (-1000000000000000001)) hx hb hown (hts (.constantLong RX11 139 (-1000000000000000001)) (by decide +kernel)) dX11_behind_8 ?_
    obtain rfl := Option.some.inj hf
    exact hret _ _ _ _ dX11_behind_11 hP hD hS
abbrev rm_X11_load : Room := { frames := 5, cells := 0, slots := 0, locals := 129 }
abbrev wd_X11_load (cyI cyJ cyZ : ClassId) (a_this a_sets a_papers a_worths a_sign a_hallSign a_chosen a_upper a_lower : Nat) (v_heaps : Int32) (v_seats : Int32) (v_signs : Int32) (v_hallMany : Int32) (v_chosenSet : Int32) (v_paidSeats : Int32) (v_rhoUp : Int64) (v_rhoBy : Int64) (v_breachGroup : Int32) (v_chosen : Nat → Int32) (v_hallSign : Nat → Int32) (v_lower : Nat → Int64) (v_papers : Nat → Int32) (v_sets : Nat → Int32) (v_upper : Nat → Int64) (v_worths : Nat → Int32) : va_W := [(a_this, .inr (10, [.int v_heaps, .ref a_sets, .ref a_papers, .int v_seats, .ref a_worths, .int v_signs, .ref a_sign, .int v_hallMany, .ref a_hallSign, .ref a_chosen, .int v_chosenSet, .int v_paidSeats, .ref a_upper, .ref a_lower, .long v_rhoUp, .long v_rhoBy, .int v_breachGroup])), (a_chosen, .inl (cyI, 8, .inl v_chosen)), (a_hallSign, .inl (cyI, 40, .inl v_hallSign)), (a_lower, .inl (cyJ, 5, .inr (.inl v_lower))), (a_papers, .inl (cyI, 7, .inl v_papers)), (a_sets, .inl (cyI, 7, .inl v_sets)), (a_upper, .inl (cyJ, 35, .inr (.inl v_upper))), (a_worths, .inl (cyI, 4, .inl v_worths))]
def f_X11_load (x1 : Int32) (x2 : Int32) (x3 : Int32) (v_heaps : Int32) (v_seats : Int32) (v_hallMany : Int32) (v_chosenSet : Int32) (v_paidSeats : Int32) (v_rhoUp : Int64) (v_rhoBy : Int64) (v_chosen : Nat → Int32) (v_hallSign : Nat → Int32) (v_lower : Nat → Int64) (v_papers : Nat → Int32) (v_sets : Nat → Int32) (v_upper : Nat → Int64) (v_worths : Nat → Int32) : Option (Int64 × Int32 × Int32 × Int64 × Int64 × (Nat → Int32) × (Nat → Int64) × (Nat → Int64)) := (f_X11_behind (2 : Int32) x1 x2 x3 v_heaps v_seats v_hallMany v_chosenSet v_paidSeats v_rhoUp v_rhoBy v_chosen v_hallSign v_lower v_papers v_sets v_upper v_worths).bind (fun q1 => some (q1.1, q1.2.1, q1.2.2.1, q1.2.2.2.1, q1.2.2.2.2.1, q1.2.2.2.2.2.1, q1.2.2.2.2.2.2.1, q1.2.2.2.2.2.2.2))
set_option maxHeartbeats 4000000 in
set_option maxRecDepth 100000 in
theorem c_X11_load (l : Launch) (D : va_G) (cyI cyJ cyZ : ClassId) (a_this a_sets a_papers a_worths a_sign a_hallSign a_chosen a_upper a_lower : Nat) (v_heaps : Int32) (v_seats : Int32) (v_signs : Int32) (v_hallMany : Int32) (v_chosenSet : Int32) (v_paidSeats : Int32) (v_rhoUp : Int64) (v_rhoBy : Int64) (v_breachGroup : Int32) (v_chosen : Nat → Int32) (v_hallSign : Nat → Int32) (v_lower : Nat → Int64) (v_papers : Nat → Int32) (v_sets : Nat → Int32) (v_upper : Nat → Int64) (v_worths : Nat → Int32) (x1 : Int32) (x2 : Int32) (x3 : Int32) (q : Int64 × Int32 × Int32 × Int64 × Int64 × (Nat → Int32) × (Nat → Int64) × (Nat → Int64)) (hf : f_X11_load x1 x2 x3 v_heaps v_seats v_hallMany v_chosenSet v_paidSeats v_rhoUp v_rhoBy v_chosen v_hallSign v_lower v_papers v_sets v_upper v_worths = some q) : kMl l yX11_load wsX11_load rm_X11_load D (kTy cyI cyJ cyZ) [.ref a_this, .int x1, .int x2, .int x3] (wd_X11_load cyI cyJ cyZ a_this a_sets a_papers a_worths a_sign a_hallSign a_chosen a_upper a_lower v_heaps v_seats v_signs v_hallMany v_chosenSet v_paidSeats v_rhoUp v_rhoBy v_breachGroup v_chosen v_hallSign v_lower v_papers v_sets v_upper v_worths) (wd_X11_load cyI cyJ cyZ a_this a_sets a_papers a_worths a_sign a_hallSign a_chosen a_upper a_lower v_heaps v_seats v_signs v_hallMany q.2.1 q.2.2.1 q.2.2.2.1 q.2.2.2.2.1 v_breachGroup q.2.2.2.2.2.1 v_hallSign q.2.2.2.2.2.2.1 v_papers v_sets q.2.2.2.2.2.2.2 v_worths) q.1 := by
  refine kMl_of (cc := cX11_load) (nL := 4) (own := RX11) (by decide) rfl rfl (Nat.le_of_ble_eq_true rfl) ?_
  intro p e s m below meth c A Q ls C hret hP hD hS hl
  have hl : lv_has ls 4 [(0, .ref a_this), (1, .int x1), (2, .int x2), (3, .int x3)] := hl
  unfold f_X11_load at hf
  obtain ⟨hx, hb, hml, hown, hts, hK, hA⟩ := id C
  have cw147 := cwV (R := rm_X11_load) (rm := rm_X11_behind) 4 hts gX11_load_X11_behind rfl rfl rfl (by decide +kernel) ⟨Nat.le_of_ble_eq_true rfl, Nat.le_of_ble_eq_true rfl⟩
  refine lv_aload_n hx hb dX11_load_0 rfl (lv_at hl 0 rfl) ?_
  refine lv_iconst (v := (2 : Int32)) hx hb dX11_load_1 (by decide) ?_
  refine lv_iload_n hx hb dX11_load_2 rfl (lv_at hl 1 rfl) ?_
  refine lv_iload_n hx hb dX11_load_3 rfl (lv_at hl 2 rfl) ?_
  refine lv_iload_n hx hb dX11_load_4 rfl (lv_at hl 3 rfl) ?_
  obtain ⟨q1, hq1, hf⟩ := ob_bind hf
  refine k_Vl (wo := (wd_X11_load cyI cyJ cyZ a_this a_sets a_papers a_worths a_sign a_hallSign a_chosen a_upper a_lower v_heaps v_seats v_signs v_hallMany q1.2.1 q1.2.2.1 q1.2.2.2.1 q1.2.2.2.2.1 v_breachGroup q1.2.2.2.2.2.1 v_hallSign q1.2.2.2.2.2.2.1 v_papers v_sets q1.2.2.2.2.2.2.2 v_worths)) (As := [.int (2 : Int32), .int x1, .int x2, .int x3]) (rest := []) C (c_X11_behind l D cyI cyJ cyZ a_this a_sets a_papers a_worths a_sign a_hallSign a_chosen a_upper a_lower v_heaps v_seats v_signs v_hallMany v_chosenSet v_paidSeats v_rhoUp v_rhoBy v_breachGroup v_chosen v_hallSign v_lower v_papers v_sets v_upper v_worths (2 : Int32) x1 x2 x3 q1 hq1) cw147 hP hD hS [0, 1, 2, 3, 4, 5, 6, 7] [] [0, 1, 2, 3, 4, 5, 6, 7] rfl rfl rfl (by decide) 0 (ci := 10) rfl rfl rfl rfl rfl hl.1 (Nat.le_of_ble_eq_true rfl) dX11_load_5 ⟨Nat.zero_le _, Nat.zero_le _⟩ (fun H locs hP hD hS => ?_)
  obtain rfl := Option.some.inj hf
  exact hret _ _ _ _ dX11_load_8 hP hD hS
abbrev rm_X11_purse : Room := { frames := 5, cells := 0, slots := 0, locals := 129 }
abbrev wd_X11_purse (cyI cyJ cyZ : ClassId) (a_this a_sets a_papers a_worths a_sign a_hallSign a_chosen a_upper a_lower : Nat) (v_heaps : Int32) (v_seats : Int32) (v_signs : Int32) (v_hallMany : Int32) (v_chosenSet : Int32) (v_paidSeats : Int32) (v_rhoUp : Int64) (v_rhoBy : Int64) (v_breachGroup : Int32) (v_chosen : Nat → Int32) (v_hallSign : Nat → Int32) (v_lower : Nat → Int64) (v_papers : Nat → Int32) (v_sets : Nat → Int32) (v_upper : Nat → Int64) (v_worths : Nat → Int32) : va_W := [(a_this, .inr (10, [.int v_heaps, .ref a_sets, .ref a_papers, .int v_seats, .ref a_worths, .int v_signs, .ref a_sign, .int v_hallMany, .ref a_hallSign, .ref a_chosen, .int v_chosenSet, .int v_paidSeats, .ref a_upper, .ref a_lower, .long v_rhoUp, .long v_rhoBy, .int v_breachGroup])), (a_chosen, .inl (cyI, 8, .inl v_chosen)), (a_hallSign, .inl (cyI, 40, .inl v_hallSign)), (a_lower, .inl (cyJ, 5, .inr (.inl v_lower))), (a_papers, .inl (cyI, 7, .inl v_papers)), (a_sets, .inl (cyI, 7, .inl v_sets)), (a_upper, .inl (cyJ, 35, .inr (.inl v_upper))), (a_worths, .inl (cyI, 4, .inl v_worths))]
def f_X11_purse (x1 : Int32) (x2 : Int32) (x3 : Int32) (v_heaps : Int32) (v_seats : Int32) (v_hallMany : Int32) (v_chosenSet : Int32) (v_paidSeats : Int32) (v_rhoUp : Int64) (v_rhoBy : Int64) (v_chosen : Nat → Int32) (v_hallSign : Nat → Int32) (v_lower : Nat → Int64) (v_papers : Nat → Int32) (v_sets : Nat → Int32) (v_upper : Nat → Int64) (v_worths : Nat → Int32) : Option (Int64 × Int32 × Int32 × Int64 × Int64 × (Nat → Int32) × (Nat → Int64) × (Nat → Int64)) := (f_X11_behind (3 : Int32) x1 x2 x3 v_heaps v_seats v_hallMany v_chosenSet v_paidSeats v_rhoUp v_rhoBy v_chosen v_hallSign v_lower v_papers v_sets v_upper v_worths).bind (fun q1 => some (q1.1, q1.2.1, q1.2.2.1, q1.2.2.2.1, q1.2.2.2.2.1, q1.2.2.2.2.2.1, q1.2.2.2.2.2.2.1, q1.2.2.2.2.2.2.2))
set_option maxHeartbeats 4000000 in
set_option maxRecDepth 100000 in
theorem c_X11_purse (l : Launch) (D : va_G) (cyI cyJ cyZ : ClassId) (a_this a_sets a_papers a_worths a_sign a_hallSign a_chosen a_upper a_lower : Nat) (v_heaps : Int32) (v_seats : Int32) (v_signs : Int32) (v_hallMany : Int32) (v_chosenSet : Int32) (v_paidSeats : Int32) (v_rhoUp : Int64) (v_rhoBy : Int64) (v_breachGroup : Int32) (v_chosen : Nat → Int32) (v_hallSign : Nat → Int32) (v_lower : Nat → Int64) (v_papers : Nat → Int32) (v_sets : Nat → Int32) (v_upper : Nat → Int64) (v_worths : Nat → Int32) (x1 : Int32) (x2 : Int32) (x3 : Int32) (q : Int64 × Int32 × Int32 × Int64 × Int64 × (Nat → Int32) × (Nat → Int64) × (Nat → Int64)) (hf : f_X11_purse x1 x2 x3 v_heaps v_seats v_hallMany v_chosenSet v_paidSeats v_rhoUp v_rhoBy v_chosen v_hallSign v_lower v_papers v_sets v_upper v_worths = some q) : kMl l yX11_purse wsX11_purse rm_X11_purse D (kTy cyI cyJ cyZ) [.ref a_this, .int x1, .int x2, .int x3] (wd_X11_purse cyI cyJ cyZ a_this a_sets a_papers a_worths a_sign a_hallSign a_chosen a_upper a_lower v_heaps v_seats v_signs v_hallMany v_chosenSet v_paidSeats v_rhoUp v_rhoBy v_breachGroup v_chosen v_hallSign v_lower v_papers v_sets v_upper v_worths) (wd_X11_purse cyI cyJ cyZ a_this a_sets a_papers a_worths a_sign a_hallSign a_chosen a_upper a_lower v_heaps v_seats v_signs v_hallMany q.2.1 q.2.2.1 q.2.2.2.1 q.2.2.2.2.1 v_breachGroup q.2.2.2.2.2.1 v_hallSign q.2.2.2.2.2.2.1 v_papers v_sets q.2.2.2.2.2.2.2 v_worths) q.1 := by
  refine kMl_of (cc := cX11_purse) (nL := 4) (own := RX11) (by decide) rfl rfl (Nat.le_of_ble_eq_true rfl) ?_
  intro p e s m below meth c A Q ls C hret hP hD hS hl
  have hl : lv_has ls 4 [(0, .ref a_this), (1, .int x1), (2, .int x2), (3, .int x3)] := hl
  unfold f_X11_purse at hf
  obtain ⟨hx, hb, hml, hown, hts, hK, hA⟩ := id C
  have cw147 := cwV (R := rm_X11_purse) (rm := rm_X11_behind) 4 hts gX11_purse_X11_behind rfl rfl rfl (by decide +kernel) ⟨Nat.le_of_ble_eq_true rfl, Nat.le_of_ble_eq_true rfl⟩
  refine lv_aload_n hx hb dX11_purse_0 rfl (lv_at hl 0 rfl) ?_
  refine lv_iconst (v := (3 : Int32)) hx hb dX11_purse_1 (by decide) ?_
  refine lv_iload_n hx hb dX11_purse_2 rfl (lv_at hl 1 rfl) ?_
  refine lv_iload_n hx hb dX11_purse_3 rfl (lv_at hl 2 rfl) ?_
  refine lv_iload_n hx hb dX11_purse_4 rfl (lv_at hl 3 rfl) ?_
  obtain ⟨q1, hq1, hf⟩ := ob_bind hf
  refine k_Vl (wo := (wd_X11_purse cyI cyJ cyZ a_this a_sets a_papers a_worths a_sign a_hallSign a_chosen a_upper a_lower v_heaps v_seats v_signs v_hallMany q1.2.1 q1.2.2.1 q1.2.2.2.1 q1.2.2.2.2.1 v_breachGroup q1.2.2.2.2.2.1 v_hallSign q1.2.2.2.2.2.2.1 v_papers v_sets q1.2.2.2.2.2.2.2 v_worths)) (As := [.int (3 : Int32), .int x1, .int x2, .int x3]) (rest := []) C (c_X11_behind l D cyI cyJ cyZ a_this a_sets a_papers a_worths a_sign a_hallSign a_chosen a_upper a_lower v_heaps v_seats v_signs v_hallMany v_chosenSet v_paidSeats v_rhoUp v_rhoBy v_breachGroup v_chosen v_hallSign v_lower v_papers v_sets v_upper v_worths (3 : Int32) x1 x2 x3 q1 hq1) cw147 hP hD hS [0, 1, 2, 3, 4, 5, 6, 7] [] [0, 1, 2, 3, 4, 5, 6, 7] rfl rfl rfl (by decide) 0 (ci := 10) rfl rfl rfl rfl rfl hl.1 (Nat.le_of_ble_eq_true rfl) dX11_purse_5 ⟨Nat.zero_le _, Nat.zero_le _⟩ (fun H locs hP hD hS => ?_)
  obtain rfl := Option.some.inj hf
  exact hret _ _ _ _ dX11_purse_8 hP hD hS
abbrev rm_X11_paid : Room := { frames := 4, cells := 0, slots := 0, locals := 105 }
abbrev wd_X11_paid (cyI cyJ cyZ : ClassId) (a_this a_sets a_papers a_worths a_sign a_hallSign a_chosen a_upper a_lower : Nat) (v_heaps : Int32) (v_seats : Int32) (v_signs : Int32) (v_hallMany : Int32) (v_chosenSet : Int32) (v_paidSeats : Int32) (v_rhoUp : Int64) (v_rhoBy : Int64) (v_breachGroup : Int32) (v_chosen : Nat → Int32) (v_hallSign : Nat → Int32) (v_lower : Nat → Int64) (v_papers : Nat → Int32) (v_sets : Nat → Int32) (v_upper : Nat → Int64) (v_worths : Nat → Int32) : va_W := [(a_this, .inr (10, [.int v_heaps, .ref a_sets, .ref a_papers, .int v_seats, .ref a_worths, .int v_signs, .ref a_sign, .int v_hallMany, .ref a_hallSign, .ref a_chosen, .int v_chosenSet, .int v_paidSeats, .ref a_upper, .ref a_lower, .long v_rhoUp, .long v_rhoBy, .int v_breachGroup])), (a_chosen, .inl (cyI, 8, .inl v_chosen)), (a_hallSign, .inl (cyI, 40, .inl v_hallSign)), (a_lower, .inl (cyJ, 5, .inr (.inl v_lower))), (a_papers, .inl (cyI, 7, .inl v_papers)), (a_sets, .inl (cyI, 7, .inl v_sets)), (a_upper, .inl (cyJ, 35, .inr (.inl v_upper))), (a_worths, .inl (cyI, 4, .inl v_worths))]
def f_X11_paid (v_heaps : Int32) (v_seats : Int32) (v_hallMany : Int32) (v_chosenSet : Int32) (v_paidSeats : Int32) (v_rhoUp : Int64) (v_rhoBy : Int64) (v_chosen : Nat → Int32) (v_hallSign : Nat → Int32) (v_lower : Nat → Int64) (v_papers : Nat → Int32) (v_sets : Nat → Int32) (v_upper : Nat → Int64) (v_worths : Nat → Int32) : Option (Int32 × Int32 × Int32 × Int64 × Int64 × (Nat → Int32) × (Nat → Int64) × (Nat → Int64)) := (f_X11_layWay (3 : Int32) v_heaps v_seats v_hallMany v_chosenSet v_paidSeats v_rhoUp v_rhoBy v_chosen v_hallSign v_lower v_papers v_sets v_upper v_worths).bind (fun q1 => some (q1.2.1, q1.1, q1.2.1, q1.2.2.1, q1.2.2.2.1, q1.2.2.2.2.1, q1.2.2.2.2.2.1, q1.2.2.2.2.2.2))
set_option maxHeartbeats 4000000 in
set_option maxRecDepth 100000 in
theorem c_X11_paid (l : Launch) (D : va_G) (cyI cyJ cyZ : ClassId) (a_this a_sets a_papers a_worths a_sign a_hallSign a_chosen a_upper a_lower : Nat) (v_heaps : Int32) (v_seats : Int32) (v_signs : Int32) (v_hallMany : Int32) (v_chosenSet : Int32) (v_paidSeats : Int32) (v_rhoUp : Int64) (v_rhoBy : Int64) (v_breachGroup : Int32) (v_chosen : Nat → Int32) (v_hallSign : Nat → Int32) (v_lower : Nat → Int64) (v_papers : Nat → Int32) (v_sets : Nat → Int32) (v_upper : Nat → Int64) (v_worths : Nat → Int32) (q : Int32 × Int32 × Int32 × Int64 × Int64 × (Nat → Int32) × (Nat → Int64) × (Nat → Int64)) (hf : f_X11_paid v_heaps v_seats v_hallMany v_chosenSet v_paidSeats v_rhoUp v_rhoBy v_chosen v_hallSign v_lower v_papers v_sets v_upper v_worths = some q) : kMi l yX11_paid wsX11_paid rm_X11_paid D (kTy cyI cyJ cyZ) [.ref a_this] (wd_X11_paid cyI cyJ cyZ a_this a_sets a_papers a_worths a_sign a_hallSign a_chosen a_upper a_lower v_heaps v_seats v_signs v_hallMany v_chosenSet v_paidSeats v_rhoUp v_rhoBy v_breachGroup v_chosen v_hallSign v_lower v_papers v_sets v_upper v_worths) (wd_X11_paid cyI cyJ cyZ a_this a_sets a_papers a_worths a_sign a_hallSign a_chosen a_upper a_lower v_heaps v_seats v_signs v_hallMany q.2.1 q.2.2.1 q.2.2.2.1 q.2.2.2.2.1 v_breachGroup q.2.2.2.2.2.1 v_hallSign q.2.2.2.2.2.2.1 v_papers v_sets q.2.2.2.2.2.2.2 v_worths) q.1 := by
  refine kMi_of (cc := cX11_paid) (nL := 1) (own := RX11) (by decide) rfl rfl (Nat.le_of_ble_eq_true rfl) ?_
  intro p e s m below meth c A Q ls C hret hP hD hS hl
  have hl : lv_has ls 1 [(0, .ref a_this)] := hl
  unfold f_X11_paid at hf
  obtain ⟨hx, hb, hml, hown, hts, hK, hA⟩ := id C
  have iX11 : ∀ w ∈ u_ws RX11 TX11 17, w ∈ wsX11_paid := by decide +kernel
  have fl110 := hts (.fieldLink RX11 110 "FairSeatsModel" "paidSeats" "I") (by decide +kernel)
  have cw132 := cwV (R := rm_X11_paid) (rm := rm_X11_layWay) 1 hts gX11_paid_X11_layWay rfl rfl rfl (by decide +kernel) ⟨Nat.le_of_ble_eq_true rfl, Nat.le_of_ble_eq_true rfl⟩
  refine lv_aload_n hx hb dX11_paid_0 rfl (lv_at hl 0 rfl) ?_
  refine lv_iconst (v := (3 : Int32)) hx hb dX11_paid_1 (by decide) ?_
  obtain ⟨q1, hq1, hf⟩ := ob_bind hf
  refine k_Vv (wo := (wd_X11_paid cyI cyJ cyZ a_this a_sets a_papers a_worths a_sign a_hallSign a_chosen a_upper a_lower v_heaps v_seats v_signs v_hallMany q1.1 q1.2.1 q1.2.2.1 q1.2.2.2.1 v_breachGroup q1.2.2.2.2.1 v_hallSign q1.2.2.2.2.2.1 v_papers v_sets q1.2.2.2.2.2.2 v_worths)) (As := [.int (3 : Int32)]) (rest := []) C (c_X11_layWay l D cyI cyJ cyZ a_this a_sets a_papers a_worths a_sign a_hallSign a_chosen a_upper a_lower v_heaps v_seats v_signs v_hallMany v_chosenSet v_paidSeats v_rhoUp v_rhoBy v_breachGroup v_chosen v_hallSign v_lower v_papers v_sets v_upper v_worths (3 : Int32) q1 hq1) cw132 hP hD hS [0, 1, 2, 3, 4, 5, 6, 7] [] [0, 1, 2, 3, 4, 5, 6, 7] rfl rfl rfl (by decide) 0 (ci := 10) rfl rfl rfl rfl rfl hl.1 (Nat.le_of_ble_eq_true rfl) dX11_paid_2 ⟨Nat.zero_le _, Nat.zero_le _⟩ (fun H locs hP hD hS => ?_)
  refine lv_aload_n hx hb dX11_paid_5 rfl (lv_at hl 0 rfl) ?_
  refine va_get (D := D) (ci := 10) (v := .int q1.2.1) (C := RX11) (T := TX11) (N := 17) hx hb hts iX11 hown hK hP 0 rfl rfl 11 (by decide) fl110 (fun _ h9 => h9) rfl dX11_paid_6 ?_
  obtain rfl := Option.some.inj hf
  exact hret _ _ _ _ dX11_paid_9 hP hD hS
abbrev rm_X11_isOwed : Room := { frames := 1, cells := 0, slots := 0, locals := 22 }
abbrev wd_X11_isOwed (cyI cyJ cyZ : ClassId) (a_this a_sets a_papers a_worths a_sign a_hallSign a_chosen a_upper a_lower : Nat) (v_heaps : Int32) (v_seats : Int32) (v_signs : Int32) (v_hallMany : Int32) (v_chosenSet : Int32) (v_paidSeats : Int32) (v_rhoUp : Int64) (v_rhoBy : Int64) (v_breachGroup : Int32) (v_papers : Nat → Int32) (v_sets : Nat → Int32) : va_W := [(a_this, .inr (10, [.int v_heaps, .ref a_sets, .ref a_papers, .int v_seats, .ref a_worths, .int v_signs, .ref a_sign, .int v_hallMany, .ref a_hallSign, .ref a_chosen, .int v_chosenSet, .int v_paidSeats, .ref a_upper, .ref a_lower, .long v_rhoUp, .long v_rhoBy, .int v_breachGroup])), (a_papers, .inl (cyI, 7, .inl v_papers)), (a_sets, .inl (cyI, 7, .inl v_sets))]
def lp_X11_isOwed_10 (y1 : Int32) (y2 : Int32) (v_heaps : Int32) (v_papers : Nat → Int32) (v_sets : Nat → Int32) : Nat → Int32 → Int32 → Int32 → Option (Int32 × Int32)
  | 0, _, _, _ => none
  | n + 1, y3, y4, y5 => (if v_heaps ≤ y5 then some (y3, y4) else (if ((y1 >>> (y5 &&& 31)) &&& (1 : Int32)) = (1 : Int32) then (if ob_in y5 7 = true then (if ob_in y5 7 = true then lp_X11_isOwed_10 y1 y2 v_heaps v_papers v_sets n (y3 &&& (v_sets y5.toNatClampNeg)) (y4 + (v_papers y5.toNatClampNeg)) (y5 + (1 : Int32)) else none) else none) else lp_X11_isOwed_10 y1 y2 v_heaps v_papers v_sets n y3 y4 (y5 + (1 : Int32))))
def f_X11_isOwed (x1 : Int32) (x2 : Int32) (v_heaps : Int32) (v_seats : Int32) (v_papers : Nat → Int32) (v_sets : Nat → Int32) : Option (Int32) := (lp_X11_isOwed_10 x1 x2 v_heaps v_papers v_sets FU (255 : Int32) (0 : Int32) (0 : Int32)).bind (fun q5 => (f_X11_bits q5.1).bind (fun q6 => (if q6 < x2 then some (0 : Int32) else (f_X11_allPapers v_heaps v_papers).bind (fun q8 => (if (q5.2 * v_seats) < (x2 * q8) then some (0 : Int32) else some (1 : Int32))))))
set_option maxHeartbeats 4000000 in
set_option maxRecDepth 100000 in
theorem wl_X11_isOwed_10 {p : Program} {l : Launch} {e : Env} {s : State} {m : MethodId} {args : Array Value} {below : List Frame} {meth : Method} {c : Code} {A : Nat → Prop} {Q : State → Prop} {D : va_G} {cyI cyJ cyZ : ClassId} {a_this a_sets a_papers a_worths a_sign a_hallSign a_chosen a_upper a_lower : Nat} {y1 : Int32} {y2 : Int32} {v_heaps : Int32} {v_seats : Int32} {v_signs : Int32} {v_hallMany : Int32} {v_chosenSet : Int32} {v_paidSeats : Int32} {v_rhoUp : Int64} {v_rhoBy : Int64} {v_breachGroup : Int32} {v_papers : Nat → Int32} {v_sets : Nat → Int32} (C : kC p s m args c cX11_isOwed 6 RX11 wsX11_isOwed D (kTy cyI cyJ cyZ) A) :
    ∀ (n : Nat) (y3 : Int32) (y4 : Int32) (y5 : Int32) (q : Int32 × Int32) (H : Heap) (locs : List Loc) (ls : Array Slot), lp_X11_isOwed_10 y1 y2 v_heaps v_papers v_sets n y3 y4 y5 = some q → (∀ (H : Heap) (locs : List Loc) (ls : Array Slot), va_P D vwCl (wd_X11_isOwed cyI cyJ cyZ a_this a_sets a_papers a_worths a_sign a_hallSign a_chosen a_upper a_lower v_heaps v_seats v_signs v_hallMany v_chosenSet v_paidSeats v_rhoUp v_rhoBy v_breachGroup v_papers v_sets) H → va_D A (wd_X11_isOwed cyI cyJ cyZ a_this a_sets a_papers a_worths a_sign a_hallSign a_chosen a_upper a_lower v_heaps v_seats v_signs v_hallMany v_chosenSet v_paidSeats v_rhoUp v_rhoBy v_breachGroup v_papers v_sets) → va_S A s.heap H locs → lv_has ls 6 [(0, .ref a_this), (2, .int y2), (3, .int q.1), (4, .int q.2)] → W p l e rm_X11_isOwed s m args below meth c H locs 0 0 Q (F0 m 57 ls [])) → va_P D vwCl (wd_X11_isOwed cyI cyJ cyZ a_this a_sets a_papers a_worths a_sign a_hallSign a_chosen a_upper a_lower v_heaps v_seats v_signs v_hallMany v_chosenSet v_paidSeats v_rhoUp v_rhoBy v_breachGroup v_papers v_sets) H → va_D A (wd_X11_isOwed cyI cyJ cyZ a_this a_sets a_papers a_worths a_sign a_hallSign a_chosen a_upper a_lower v_heaps v_seats v_signs v_hallMany v_chosenSet v_paidSeats v_rhoUp v_rhoBy v_breachGroup v_papers v_sets) → va_S A s.heap H locs → lv_has ls 6 [(0, .ref a_this), (1, .int y1), (2, .int y2), (3, .int y3), (4, .int y4), (5, .int y5)] → W p l e rm_X11_isOwed s m args below meth c H locs 0 0 Q (F0 m 10 ls []) := by
  obtain ⟨hx, hb, hml, hown, hts, hK, hA⟩ := id C
  have iX11 : ∀ w ∈ u_ws RX11 TX11 17, w ∈ wsX11_isOwed := by decide +kernel
  have fl7 := hts (.fieldLink RX11 7 "FairSeatsModel" "sets" "[I") (by decide +kernel)
  have fl13 := hts (.fieldLink RX11 13 "FairSeatsModel" "papers" "[I") (by decide +kernel)
  have fl39 := hts (.fieldLink RX11 39 "FairSeatsModel" "heaps" "I") (by decide +kernel)
  intro n
  induction n with
  | zero =>
    intro y3 y4 y5 q H locs ls hf K hP hD hS hl
    rw [lp_X11_isOwed_10] at hf
    cases hf
  | succ n ih =>
    intro y3 y4 y5 q H locs ls hf K hP hD hS hl
    rw [lp_X11_isOwed_10] at hf
    refine lv_iload hx hb dX11_isOwed_10 (lv_at hl 5 rfl) ?_
    refine lv_aload_n hx hb dX11_isOwed_12 rfl (lv_at hl 0 rfl) ?_
    refine va_get (D := D) (ci := 10) (v := .int v_heaps) (C := RX11) (T := TX11) (N := 17) hx hb hts iX11 hown hK hP 0 rfl rfl 0 (by decide) fl39 (fun _ h9 => h9) rfl dX11_isOwed_13 ?_
    refine lv_icmp_ge (tgt := 57) hx hb dX11_isOwed_16 (by decide) (fun c1 => ?_) (fun c1 => ?_)
    · have hf := ob_pos c1 hf
      obtain rfl := Option.some.inj hf
      exact K _ _ _ hP hD hS (lv_sub hl [0, 2, 3, 4] rfl)
    · have hf := ob_neg c1 hf
      refine lv_iload_n hx hb dX11_isOwed_19 rfl (lv_at hl 1 rfl) ?_
      refine lv_iload hx hb dX11_isOwed_20 (lv_at hl 5 rfl) ?_
      refine lv_ishr hx hb dX11_isOwed_22 ?_
      refine lv_iconst (v := (1 : Int32)) hx hb dX11_isOwed_23 (by decide) ?_
      refine lv_iand hx hb dX11_isOwed_24 ?_
      refine lv_iconst (v := (1 : Int32)) hx hb dX11_isOwed_25 (by decide) ?_
      refine lv_icmp_ne (tgt := 51) hx hb dX11_isOwed_26 (by decide) (fun c2 => ?_) (fun c2 => ?_)
      · have hf := ob_neg c2 hf
        refine lv_iinc (v := (y5 + (1 : Int32))) (lv' := [(5, .int (y5 + (1 : Int32))), (0, .ref a_this), (1, .int y1), (2, .int y2), (3, .int y3), (4, .int y4)]) hx hb dX11_isOwed_51 hl (k := 5) rfl rfl (by decide) rfl (fun ls hl => ?_)
        refine lv_goto (tgt := 10) hx hb dX11_isOwed_54 (by decide) ?_
        exact ih y3 y4 (y5 + (1 : Int32)) _ _ _ _ hf K hP hD hS (lv_sub hl [1, 2, 3, 4, 5, 0] rfl)
      · have hf := ob_pos c2 hf
        refine lv_iload_n hx hb dX11_isOwed_29 rfl (lv_at hl 3 rfl) ?_
        refine lv_aload_n hx hb dX11_isOwed_30 rfl (lv_at hl 0 rfl) ?_
        refine va_get (D := D) (ci := 10) (v := .ref a_sets) (C := RX11) (T := TX11) (N := 17) hx hb hts iX11 hown hK hP 0 rfl rfl 1 (by decide) fl7 (fun _ h9 => h9) rfl dX11_isOwed_31 ?_
        refine lv_iload hx hb dX11_isOwed_34 (lv_at hl 5 rfl) ?_
        obtain ⟨h3, hf⟩ := og_in hf
        refine va_iald hx hb hK hP 2 0 rfl rfl h3 dX11_isOwed_36 ?_
        refine lv_iand hx hb dX11_isOwed_37 ?_
        refine lv_istore_n (lv' := [(3, .int (y3 &&& (v_sets y5.toNatClampNeg))), (0, .ref a_this), (1, .int y1), (2, .int y2), (4, .int y4), (5, .int y5)]) hx hb dX11_isOwed_38 rfl hl (by decide) rfl (fun ls hl => ?_)
        refine lv_iload hx hb dX11_isOwed_39 (lv_at hl 4 rfl) ?_
        refine lv_aload_n hx hb dX11_isOwed_41 rfl (lv_at hl 1 rfl) ?_
        refine va_get (D := D) (ci := 10) (v := .ref a_papers) (C := RX11) (T := TX11) (N := 17) hx hb hts iX11 hown hK hP 0 rfl rfl 2 (by decide) fl13 (fun _ h9 => h9) rfl dX11_isOwed_42 ?_
        refine lv_iload hx hb dX11_isOwed_45 (lv_at hl 5 rfl) ?_
        obtain ⟨h4, hf⟩ := og_in hf
        refine va_iald hx hb hK hP 1 0 rfl rfl h4 dX11_isOwed_47 ?_
        refine lv_iadd hx hb dX11_isOwed_48 ?_
        refine lv_istore (lv' := [(4, .int (y4 + (v_papers y5.toNatClampNeg))), (3, .int (y3 &&& (v_sets y5.toNatClampNeg))), (0, .ref a_this), (1, .int y1), (2, .int y2), (5, .int y5)]) hx hb dX11_isOwed_49 hl (by decide) rfl (fun ls hl => ?_)
        refine lv_iinc (v := (y5 + (1 : Int32))) (lv' := [(5, .int (y5 + (1 : Int32))), (4, .int (y4 + (v_papers y5.toNatClampNeg))), (3, .int (y3 &&& (v_sets y5.toNatClampNeg))), (0, .ref a_this), (1, .int y1), (2, .int y2)]) hx hb dX11_isOwed_51 hl (k := 5) rfl rfl (by decide) rfl (fun ls hl => ?_)
        refine lv_goto (tgt := 10) hx hb dX11_isOwed_54 (by decide) ?_
        exact ih (y3 &&& (v_sets y5.toNatClampNeg)) (y4 + (v_papers y5.toNatClampNeg)) (y5 + (1 : Int32)) _ _ _ _ hf K hP hD hS (lv_sub hl [3, 4, 5, 2, 1, 0] rfl)
set_option maxHeartbeats 4000000 in
set_option maxRecDepth 100000 in
theorem c_X11_isOwed (l : Launch) (D : va_G) (cyI cyJ cyZ : ClassId) (a_this a_sets a_papers a_worths a_sign a_hallSign a_chosen a_upper a_lower : Nat) (v_heaps : Int32) (v_seats : Int32) (v_signs : Int32) (v_hallMany : Int32) (v_chosenSet : Int32) (v_paidSeats : Int32) (v_rhoUp : Int64) (v_rhoBy : Int64) (v_breachGroup : Int32) (v_papers : Nat → Int32) (v_sets : Nat → Int32) (x1 : Int32) (x2 : Int32) (q : Int32) (hf : f_X11_isOwed x1 x2 v_heaps v_seats v_papers v_sets = some q) : kMz l yX11_isOwed wsX11_isOwed rm_X11_isOwed D (kTy cyI cyJ cyZ) [.ref a_this, .int x1, .int x2] (wd_X11_isOwed cyI cyJ cyZ a_this a_sets a_papers a_worths a_sign a_hallSign a_chosen a_upper a_lower v_heaps v_seats v_signs v_hallMany v_chosenSet v_paidSeats v_rhoUp v_rhoBy v_breachGroup v_papers v_sets) (wd_X11_isOwed cyI cyJ cyZ a_this a_sets a_papers a_worths a_sign a_hallSign a_chosen a_upper a_lower v_heaps v_seats v_signs v_hallMany v_chosenSet v_paidSeats v_rhoUp v_rhoBy v_breachGroup v_papers v_sets) q := by
  refine kMz_of (cc := cX11_isOwed) (nL := 6) (own := RX11) (by decide) rfl rfl (Nat.le_of_ble_eq_true rfl) ?_
  intro p e s m below meth c A Q ls C hret hP hD hS hl
  have hl : lv_has ls 6 [(0, .ref a_this), (1, .int x1), (2, .int x2)] := hl
  unfold f_X11_isOwed at hf
  obtain ⟨hx, hb, hml, hown, hts, hK, hA⟩ := id C
  have iX11 : ∀ w ∈ u_ws RX11 TX11 17, w ∈ wsX11_isOwed := by decide +kernel
  have fl16 := hts (.fieldLink RX11 16 "FairSeatsModel" "seats" "I") (by decide +kernel)
  have cw60 := va_cwS (R := rm_X11_isOwed) (rm := rm_X11_bits) 1 hts gX11_isOwed_X11_bits rfl rfl rfl (by decide +kernel) ⟨Nat.le_of_ble_eq_true rfl, Nat.le_of_ble_eq_true rfl⟩
  have cw96 := cwV (R := rm_X11_isOwed) (rm := rm_X11_allPapers) 0 hts gX11_isOwed_X11_allPapers rfl rfl rfl (by decide +kernel) ⟨Nat.le_of_ble_eq_true rfl, Nat.le_of_ble_eq_true rfl⟩
  refine lv_sipush (v := (255 : Int32)) hx hb dX11_isOwed_0 (by decide) ?_
  refine lv_istore_n (lv' := [(3, .int (255 : Int32)), (0, .ref a_this), (1, .int x1), (2, .int x2)]) hx hb dX11_isOwed_3 rfl hl (by decide) rfl (fun ls hl => ?_)
  refine lv_iconst (v := (0 : Int32)) hx hb dX11_isOwed_4 (by decide) ?_
  refine lv_istore (lv' := [(4, .int (0 : Int32)), (3, .int (255 : Int32)), (0, .ref a_this), (1, .int x1), (2, .int x2)]) hx hb dX11_isOwed_5 hl (by decide) rfl (fun ls hl => ?_)
  refine lv_iconst (v := (0 : Int32)) hx hb dX11_isOwed_7 (by decide) ?_
  refine lv_istore (lv' := [(5, .int (0 : Int32)), (4, .int (0 : Int32)), (3, .int (255 : Int32)), (0, .ref a_this), (1, .int x1), (2, .int x2)]) hx hb dX11_isOwed_8 hl (by decide) rfl (fun ls hl => ?_)
  obtain ⟨q5, hq5, hf⟩ := ob_bind hf
  refine wl_X11_isOwed_10 C FU (255 : Int32) (0 : Int32) (0 : Int32) _ _ _ _ hq5 (fun H locs ls hP hD hS hl => ?_) hP hD hS (lv_sub hl [3, 4, 5, 2, 1, 0] rfl)
  refine lv_iload_n hx hb dX11_isOwed_57 rfl (lv_at hl 2 rfl) ?_
  obtain ⟨q6, hq6, hf⟩ := ob_bind hf
  refine k_Si (wo := (wd_X11_isOwed cyI cyJ cyZ a_this a_sets a_papers a_worths a_sign a_hallSign a_chosen a_upper a_lower v_heaps v_seats v_signs v_hallMany v_chosenSet v_paidSeats v_rhoUp v_rhoBy v_breachGroup v_papers v_sets)) (As := [.int q5.1]) (rest := []) C (c_X11_bits l D cyI cyJ cyZ   q5.1 q6 hq6) cw60 hP hD hS [] [0, 1, 2] [0, 1, 2] rfl rfl rfl (by decide) rfl rfl hl.1 (Nat.le_of_ble_eq_true rfl) dX11_isOwed_58 ⟨Nat.zero_le _, Nat.zero_le _⟩ (fun H locs hP hD hS => ?_)
  refine lv_iload_n hx hb dX11_isOwed_61 rfl (lv_at hl 1 rfl) ?_
  refine lv_icmp_lt (tgt := 85) hx hb dX11_isOwed_62 (by decide) (fun c7 => ?_) (fun c7 => ?_)
  · have hf := ob_pos c7 hf
    refine lv_iconst (v := (0 : Int32)) hx hb dX11_isOwed_85 (by decide) ?_
    obtain rfl := Option.some.inj hf
    exact hret _ _ _ _ narrow_b0 dX11_isOwed_86 hP hD hS
  · have hf := ob_neg c7 hf
    refine lv_iload hx hb dX11_isOwed_65 (lv_at hl 3 rfl) ?_
    refine lv_aload_n hx hb dX11_isOwed_67 rfl (lv_at hl 0 rfl) ?_
    refine va_get (D := D) (ci := 10) (v := .int v_seats) (C := RX11) (T := TX11) (N := 17) hx hb hts iX11 hown hK hP 0 rfl rfl 3 (by decide) fl16 (fun _ h9 => h9) rfl dX11_isOwed_68 ?_
    refine lv_imul hx hb dX11_isOwed_71 ?_
    refine lv_iload_n hx hb dX11_isOwed_72 rfl (lv_at hl 1 rfl) ?_
    refine lv_aload_n hx hb dX11_isOwed_73 rfl (lv_at hl 0 rfl) ?_
    obtain ⟨q8, hq8, hf⟩ := ob_bind hf
    refine k_Vi (wo := (wd_X11_isOwed cyI cyJ cyZ a_this a_sets a_papers a_worths a_sign a_hallSign a_chosen a_upper a_lower v_heaps v_seats v_signs v_hallMany v_chosenSet v_paidSeats v_rhoUp v_rhoBy v_breachGroup v_papers v_sets)) (As := []) (rest := [.int x2, .int (q5.2 * v_seats)]) C (c_X11_allPapers l D cyI cyJ cyZ a_this a_sets a_papers a_worths a_sign a_hallSign a_chosen a_upper a_lower v_heaps v_seats v_signs v_hallMany v_chosenSet v_paidSeats v_rhoUp v_rhoBy v_breachGroup v_papers  q8 hq8) cw96 hP hD hS [0, 1] [2] [1, 2, 0] rfl rfl rfl (by decide) 0 (ci := 10) rfl rfl rfl rfl rfl hl.1 (Nat.le_of_ble_eq_true rfl) dX11_isOwed_74 ⟨Nat.zero_le _, Nat.zero_le _⟩ (fun H locs hP hD hS => ?_)
    refine lv_imul hx hb dX11_isOwed_77 ?_
    refine lv_icmp_lt (tgt := 85) hx hb dX11_isOwed_78 (by decide) (fun c9 => ?_) (fun c9 => ?_)
    · have hf := ob_pos c9 hf
      refine lv_iconst (v := (0 : Int32)) hx hb dX11_isOwed_85 (by decide) ?_
      obtain rfl := Option.some.inj hf
      exact hret _ _ _ _ narrow_b0 dX11_isOwed_86 hP hD hS
    · have hf := ob_neg c9 hf
      refine lv_iconst (v := (1 : Int32)) hx hb dX11_isOwed_81 (by decide) ?_
      refine lv_goto (tgt := 86) hx hb dX11_isOwed_82 (by decide) ?_
      obtain rfl := Option.some.inj hf
      exact hret _ _ _ _ narrow_b1 dX11_isOwed_86 hP hD hS
abbrev rm_X11_owed : Room := { frames := 2, cells := 0, slots := 0, locals := 47 }
abbrev wd_X11_owed (cyI cyJ cyZ : ClassId) (a_this a_sets a_papers a_worths a_sign a_hallSign a_chosen a_upper a_lower : Nat) (v_heaps : Int32) (v_seats : Int32) (v_signs : Int32) (v_hallMany : Int32) (v_chosenSet : Int32) (v_paidSeats : Int32) (v_rhoUp : Int64) (v_rhoBy : Int64) (v_breachGroup : Int32) (v_papers : Nat → Int32) (v_sets : Nat → Int32) : va_W := [(a_this, .inr (10, [.int v_heaps, .ref a_sets, .ref a_papers, .int v_seats, .ref a_worths, .int v_signs, .ref a_sign, .int v_hallMany, .ref a_hallSign, .ref a_chosen, .int v_chosenSet, .int v_paidSeats, .ref a_upper, .ref a_lower, .long v_rhoUp, .long v_rhoBy, .int v_breachGroup])), (a_papers, .inl (cyI, 7, .inl v_papers)), (a_sets, .inl (cyI, 7, .inl v_sets))]
def f_X11_owed (x1 : Int32) (x2 : Int32) (v_heaps : Int32) (v_seats : Int32) (v_papers : Nat → Int32) (v_sets : Nat → Int32) : Option (Int32) := (f_X11_in x2 (1 : Int32) (4 : Int32)).bind (fun q1 => (if q1 = 0 then some (-2 : Int32) else (f_X11_in x1 (1 : Int32) (((1 : Int32) <<< (v_heaps &&& 31)) - (1 : Int32))).bind (fun q3 => (if q3 = 0 then some (-2 : Int32) else (f_X11_isOwed x1 x2 v_heaps v_seats v_papers v_sets).bind (fun q5 => (if q5 = 0 then some (0 : Int32) else some (1 : Int32)))))))
set_option maxHeartbeats 4000000 in
set_option maxRecDepth 100000 in
theorem c_X11_owed (l : Launch) (D : va_G) (cyI cyJ cyZ : ClassId) (a_this a_sets a_papers a_worths a_sign a_hallSign a_chosen a_upper a_lower : Nat) (v_heaps : Int32) (v_seats : Int32) (v_signs : Int32) (v_hallMany : Int32) (v_chosenSet : Int32) (v_paidSeats : Int32) (v_rhoUp : Int64) (v_rhoBy : Int64) (v_breachGroup : Int32) (v_papers : Nat → Int32) (v_sets : Nat → Int32) (x1 : Int32) (x2 : Int32) (q : Int32) (hf : f_X11_owed x1 x2 v_heaps v_seats v_papers v_sets = some q) : kMi l yX11_owed wsX11_owed rm_X11_owed D (kTy cyI cyJ cyZ) [.ref a_this, .int x1, .int x2] (wd_X11_owed cyI cyJ cyZ a_this a_sets a_papers a_worths a_sign a_hallSign a_chosen a_upper a_lower v_heaps v_seats v_signs v_hallMany v_chosenSet v_paidSeats v_rhoUp v_rhoBy v_breachGroup v_papers v_sets) (wd_X11_owed cyI cyJ cyZ a_this a_sets a_papers a_worths a_sign a_hallSign a_chosen a_upper a_lower v_heaps v_seats v_signs v_hallMany v_chosenSet v_paidSeats v_rhoUp v_rhoBy v_breachGroup v_papers v_sets) q := by
  refine kMi_of (cc := cX11_owed) (nL := 3) (own := RX11) (by decide) rfl rfl (Nat.le_of_ble_eq_true rfl) ?_
  intro p e s m below meth c A Q ls C hret hP hD hS hl
  have hl : lv_has ls 3 [(0, .ref a_this), (1, .int x1), (2, .int x2)] := hl
  unfold f_X11_owed at hf
  obtain ⟨hx, hb, hml, hown, hts, hK, hA⟩ := id C
  have iX11 : ∀ w ∈ u_ws RX11 TX11 17, w ∈ wsX11_owed := by decide +kernel
  have fl39 := hts (.fieldLink RX11 39 "FairSeatsModel" "heaps" "I") (by decide +kernel)
  have cw42 := va_cwS (R := rm_X11_owed) (rm := rm_X11_in) 3 hts gX11_owed_X11_in rfl rfl rfl (by decide +kernel) ⟨Nat.le_of_ble_eq_true rfl, Nat.le_of_ble_eq_true rfl⟩
  have cw151 := cwV (R := rm_X11_owed) (rm := rm_X11_isOwed) 2 hts gX11_owed_X11_isOwed rfl rfl rfl (by decide +kernel) ⟨Nat.le_of_ble_eq_true rfl, Nat.le_of_ble_eq_true rfl⟩
  refine lv_iload_n hx hb dX11_owed_0 rfl (lv_at hl 2 rfl) ?_
  refine lv_iconst (v := (1 : Int32)) hx hb dX11_owed_1 (by decide) ?_
  refine lv_iconst (v := (4 : Int32)) hx hb dX11_owed_2 (by decide) ?_
  obtain ⟨q1, hq1, hf⟩ := ob_bind hf
  refine k_Sz (wo := (wd_X11_owed cyI cyJ cyZ a_this a_sets a_papers a_worths a_sign a_hallSign a_chosen a_upper a_lower v_heaps v_seats v_signs v_hallMany v_chosenSet v_paidSeats v_rhoUp v_rhoBy v_breachGroup v_papers v_sets)) (As := [.int x2, .int (1 : Int32), .int (4 : Int32)]) (rest := []) C (c_X11_in l D cyI cyJ cyZ   x2 (1 : Int32) (4 : Int32) q1 hq1) cw42 hP hD hS [] [0, 1, 2] [0, 1, 2] rfl rfl rfl (by decide) rfl rfl hl.1 (Nat.le_of_ble_eq_true rfl) dX11_owed_3 ⟨Nat.zero_le _, Nat.zero_le _⟩ (fun H locs zq1 hP hD hS => ?_)
  refine lv_if_eq (tgt := 25) hx hb dX11_owed_6 (by decide) (fun c2 => ?_) (fun c2 => ?_)
  · have hf := ob_pos c2 hf
    refine lv_bipush (v := (-2 : Int32)) hx hb dX11_owed_25 (by decide) ?_
    obtain rfl := Option.some.inj hf
    exact hret _ _ _ _ dX11_owed_27 hP hD hS
  · have hf := ob_neg c2 hf
    refine lv_iload_n hx hb dX11_owed_9 rfl (lv_at hl 1 rfl) ?_
    refine lv_iconst (v := (1 : Int32)) hx hb dX11_owed_10 (by decide) ?_
    refine lv_iconst (v := (1 : Int32)) hx hb dX11_owed_11 (by decide) ?_
    refine lv_aload_n hx hb dX11_owed_12 rfl (lv_at hl 0 rfl) ?_
    refine va_get (D := D) (ci := 10) (v := .int v_heaps) (C := RX11) (T := TX11) (N := 17) hx hb hts iX11 hown hK hP 0 rfl rfl 0 (by decide) fl39 (fun _ h9 => h9) rfl dX11_owed_13 ?_
    refine lv_ishl hx hb dX11_owed_16 ?_
    refine lv_iconst (v := (1 : Int32)) hx hb dX11_owed_17 (by decide) ?_
    refine lv_isub hx hb dX11_owed_18 ?_
    obtain ⟨q3, hq3, hf⟩ := ob_bind hf
    refine k_Sz (wo := (wd_X11_owed cyI cyJ cyZ a_this a_sets a_papers a_worths a_sign a_hallSign a_chosen a_upper a_lower v_heaps v_seats v_signs v_hallMany v_chosenSet v_paidSeats v_rhoUp v_rhoBy v_breachGroup v_papers v_sets)) (As := [.int x1, .int (1 : Int32), .int (((1 : Int32) <<< (v_heaps &&& 31)) - (1 : Int32))]) (rest := []) C (c_X11_in l D cyI cyJ cyZ   x1 (1 : Int32) (((1 : Int32) <<< (v_heaps &&& 31)) - (1 : Int32)) q3 hq3) cw42 hP hD hS [] [0, 1, 2] [0, 1, 2] rfl rfl rfl (by decide) rfl rfl hl.1 (Nat.le_of_ble_eq_true rfl) dX11_owed_19 ⟨Nat.zero_le _, Nat.zero_le _⟩ (fun H locs zq3 hP hD hS => ?_)
    refine lv_if_ne (tgt := 28) hx hb dX11_owed_22 (by decide) (fun c4 => ?_) (fun c4 => ?_)
    · have hf := ob_neg c4 hf
      refine lv_aload_n hx hb dX11_owed_28 rfl (lv_at hl 0 rfl) ?_
      refine lv_iload_n hx hb dX11_owed_29 rfl (lv_at hl 1 rfl) ?_
      refine lv_iload_n hx hb dX11_owed_30 rfl (lv_at hl 2 rfl) ?_
      obtain ⟨q5, hq5, hf⟩ := ob_bind hf
      refine k_Vz (wo := (wd_X11_owed cyI cyJ cyZ a_this a_sets a_papers a_worths a_sign a_hallSign a_chosen a_upper a_lower v_heaps v_seats v_signs v_hallMany v_chosenSet v_paidSeats v_rhoUp v_rhoBy v_breachGroup v_papers v_sets)) (As := [.int x1, .int x2]) (rest := []) C (c_X11_isOwed l D cyI cyJ cyZ a_this a_sets a_papers a_worths a_sign a_hallSign a_chosen a_upper a_lower v_heaps v_seats v_signs v_hallMany v_chosenSet v_paidSeats v_rhoUp v_rhoBy v_breachGroup v_papers v_sets x1 x2 q5 hq5) cw151 hP hD hS [0, 1, 2] [] [0, 1, 2] rfl rfl rfl (by decide) 0 (ci := 10) rfl rfl rfl rfl rfl hl.1 (Nat.le_of_ble_eq_true rfl) dX11_owed_31 ⟨Nat.zero_le _, Nat.zero_le _⟩ (fun H locs zq5 hP hD hS => ?_)
      refine lv_if_eq (tgt := 41) hx hb dX11_owed_34 (by decide) (fun c6 => ?_) (fun c6 => ?_)
      · have hf := ob_pos c6 hf
        refine lv_iconst (v := (0 : Int32)) hx hb dX11_owed_41 (by decide) ?_
        obtain rfl := Option.some.inj hf
        exact hret _ _ _ _ dX11_owed_42 hP hD hS
      · have hf := ob_neg c6 hf
        refine lv_iconst (v := (1 : Int32)) hx hb dX11_owed_37 (by decide) ?_
        refine lv_goto (tgt := 42) hx hb dX11_owed_38 (by decide) ?_
        obtain rfl := Option.some.inj hf
        exact hret _ _ _ _ dX11_owed_42 hP hD hS
    · have hf := ob_pos c4 hf
      refine lv_bipush (v := (-2 : Int32)) hx hb dX11_owed_25 (by decide) ?_
      obtain rfl := Option.some.inj hf
      exact hret _ _ _ _ dX11_owed_27 hP hD hS
