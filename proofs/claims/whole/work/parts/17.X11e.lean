abbrev rm_X11_lacks : Room := { frames := 1, cells := 0, slots := 0, locals := 22 }
abbrev wd_X11_lacks (cyI cyJ cyZ : ClassId) (a_this a_sets a_papers a_worths a_sign a_hallSign a_chosen a_upper a_lower : Nat) (v_heaps : Int32) (v_seats : Int32) (v_signs : Int32) (v_hallMany : Int32) (v_chosenSet : Int32) (v_paidSeats : Int32) (v_rhoUp : Int64) (v_rhoBy : Int64) (v_breachGroup : Int32) (v_sets : Nat → Int32) : va_W := [(a_this, .inr (10, [.int v_heaps, .ref a_sets, .ref a_papers, .int v_seats, .ref a_worths, .int v_signs, .ref a_sign, .int v_hallMany, .ref a_hallSign, .ref a_chosen, .int v_chosenSet, .int v_paidSeats, .ref a_upper, .ref a_lower, .long v_rhoUp, .long v_rhoBy, .int v_breachGroup])), (a_sets, .inl (cyI, 7, .inl v_sets))]
def lp_X11_lacks_9 (y1 : Int32) (y2 : Int32) (y3 : Int32) (y4 : Int32) (v_heaps : Int32) (v_sets : Nat → Int32) : Nat → Int32 → Int32 → Int32 → Option (Int32 × Int32)
  | 0, _, _, _ => none
  | n + 1, y5, y6, y7 => (if v_heaps ≤ y7 then some (y5, y6) else (if ((y3 >>> (y7 &&& 31)) &&& (1 : Int32)) = (1 : Int32) then (if ob_in y7 7 = true then (if ob_in y7 7 = true then (f_X11_bits (y2 &&& (v_sets y7.toNatClampNeg))).bind (fun q5 => (if q5 ≤ y6 then lp_X11_lacks_9 y1 y2 y3 y4 v_heaps v_sets n (y5 ||| (v_sets y7.toNatClampNeg)) y6 (y7 + (1 : Int32)) else (if ob_in y7 7 = true then (f_X11_bits (y2 &&& (v_sets y7.toNatClampNeg))).bind (fun q8 => lp_X11_lacks_9 y1 y2 y3 y4 v_heaps v_sets n (y5 ||| (v_sets y7.toNatClampNeg)) q8 (y7 + (1 : Int32))) else none))) else none) else none) else lp_X11_lacks_9 y1 y2 y3 y4 v_heaps v_sets n y5 y6 (y7 + (1 : Int32))))
def f_X11_lacks (x1 : Int32) (x2 : Int32) (x3 : Int32) (x4 : Int32) (v_heaps : Int32) (v_sets : Nat → Int32) : Option (Int32) := (lp_X11_lacks_9 x1 x2 x3 x4 v_heaps v_sets FU (0 : Int32) (0 : Int32) (0 : Int32)).bind (fun q9 => (if x1 = (1 : Int32) then (f_X11_bits (q9.1 &&& x2)).bind (fun q12 => (if x4 ≤ q12 then some (0 : Int32) else some (1 : Int32))) else (if x4 ≤ q9.2 then some (0 : Int32) else some (1 : Int32))))
set_option maxHeartbeats 4000000 in
set_option maxRecDepth 100000 in
theorem wl_X11_lacks_9 {p : Program} {l : Launch} {e : Env} {s : State} {m : MethodId} {args : Array Value} {below : List Frame} {meth : Method} {c : Code} {A : Nat → Prop} {Q : State → Prop} {D : va_G} {cyI cyJ cyZ : ClassId} {a_this a_sets a_papers a_worths a_sign a_hallSign a_chosen a_upper a_lower : Nat} {y1 : Int32} {y2 : Int32} {y3 : Int32} {y4 : Int32} {v_heaps : Int32} {v_seats : Int32} {v_signs : Int32} {v_hallMany : Int32} {v_chosenSet : Int32} {v_paidSeats : Int32} {v_rhoUp : Int64} {v_rhoBy : Int64} {v_breachGroup : Int32} {v_sets : Nat → Int32} (C : kC p s m args c cX11_lacks 8 RX11 wsX11_lacks D (kTy cyI cyJ cyZ) A) :
    ∀ (n : Nat) (y5 : Int32) (y6 : Int32) (y7 : Int32) (q : Int32 × Int32) (H : Heap) (locs : List Loc) (ls : Array Slot), lp_X11_lacks_9 y1 y2 y3 y4 v_heaps v_sets n y5 y6 y7 = some q → (∀ (H : Heap) (locs : List Loc) (ls : Array Slot), va_P D vwCl (wd_X11_lacks cyI cyJ cyZ a_this a_sets a_papers a_worths a_sign a_hallSign a_chosen a_upper a_lower v_heaps v_seats v_signs v_hallMany v_chosenSet v_paidSeats v_rhoUp v_rhoBy v_breachGroup v_sets) H → va_D A (wd_X11_lacks cyI cyJ cyZ a_this a_sets a_papers a_worths a_sign a_hallSign a_chosen a_upper a_lower v_heaps v_seats v_signs v_hallMany v_chosenSet v_paidSeats v_rhoUp v_rhoBy v_breachGroup v_sets) → va_S A s.heap H locs → lv_has ls 8 [(1, .int y1), (2, .int y2), (4, .int y4), (5, .int q.1), (6, .int q.2)] → W p l e rm_X11_lacks s m args below meth c H locs 0 0 Q (F0 m 82 ls [])) → va_P D vwCl (wd_X11_lacks cyI cyJ cyZ a_this a_sets a_papers a_worths a_sign a_hallSign a_chosen a_upper a_lower v_heaps v_seats v_signs v_hallMany v_chosenSet v_paidSeats v_rhoUp v_rhoBy v_breachGroup v_sets) H → va_D A (wd_X11_lacks cyI cyJ cyZ a_this a_sets a_papers a_worths a_sign a_hallSign a_chosen a_upper a_lower v_heaps v_seats v_signs v_hallMany v_chosenSet v_paidSeats v_rhoUp v_rhoBy v_breachGroup v_sets) → va_S A s.heap H locs → lv_has ls 8 [(0, .ref a_this), (1, .int y1), (2, .int y2), (3, .int y3), (4, .int y4), (5, .int y5), (6, .int y6), (7, .int y7)] → W p l e rm_X11_lacks s m args below meth c H locs 0 0 Q (F0 m 9 ls []) := by
  obtain ⟨hx, hb, hml, hown, hts, hK, hA⟩ := id C
  have iX11 : ∀ w ∈ u_ws RX11 TX11 17, w ∈ wsX11_lacks := by decide +kernel
  have fl7 := hts (.fieldLink RX11 7 "FairSeatsModel" "sets" "[I") (by decide +kernel)
  have fl39 := hts (.fieldLink RX11 39 "FairSeatsModel" "heaps" "I") (by decide +kernel)
  have cw60 := va_cwS (R := rm_X11_lacks) (rm := rm_X11_bits) 1 hts gX11_lacks_X11_bits rfl rfl rfl (by decide +kernel) ⟨Nat.le_of_ble_eq_true rfl, Nat.le_of_ble_eq_true rfl⟩
  intro n
  induction n with
  | zero =>
    intro y5 y6 y7 q H locs ls hf K hP hD hS hl
    rw [lp_X11_lacks_9] at hf
    cases hf
  | succ n ih =>
    intro y5 y6 y7 q H locs ls hf K hP hD hS hl
    rw [lp_X11_lacks_9] at hf
    refine lv_iload hx hb dX11_lacks_9 (lv_at hl 7 rfl) ?_
    refine lv_aload_n hx hb dX11_lacks_11 rfl (lv_at hl 0 rfl) ?_
    refine va_get (D := D) (ci := 10) (v := .int v_heaps) (C := RX11) (T := TX11) (N := 17) hx hb hts iX11 hown hK hP 0 rfl rfl 0 (by decide) fl39 (fun _ h9 => h9) rfl dX11_lacks_12 ?_
    refine lv_icmp_ge (tgt := 82) hx hb dX11_lacks_15 (by decide) (fun c1 => ?_) (fun c1 => ?_)
    · have hf := ob_pos c1 hf
      obtain rfl := Option.some.inj hf
      exact K _ _ _ hP hD hS (lv_sub hl [1, 2, 4, 5, 6] rfl)
    · have hf := ob_neg c1 hf
      refine lv_iload_n hx hb dX11_lacks_18 rfl (lv_at hl 3 rfl) ?_
      refine lv_iload hx hb dX11_lacks_19 (lv_at hl 7 rfl) ?_
      refine lv_ishr hx hb dX11_lacks_21 ?_
      refine lv_iconst (v := (1 : Int32)) hx hb dX11_lacks_22 (by decide) ?_
      refine lv_iand hx hb dX11_lacks_23 ?_
      refine lv_iconst (v := (1 : Int32)) hx hb dX11_lacks_24 (by decide) ?_
      refine lv_icmp_ne (tgt := 76) hx hb dX11_lacks_25 (by decide) (fun c2 => ?_) (fun c2 => ?_)
      · have hf := ob_neg c2 hf
        refine lv_iinc (v := (y7 + (1 : Int32))) (lv' := [(7, .int (y7 + (1 : Int32))), (0, .ref a_this), (1, .int y1), (2, .int y2), (3, .int y3), (4, .int y4), (5, .int y5), (6, .int y6)]) hx hb dX11_lacks_76 hl (k := 7) rfl rfl (by decide) rfl (fun ls hl => ?_)
        refine lv_goto (tgt := 9) hx hb dX11_lacks_79 (by decide) ?_
        exact ih y5 y6 (y7 + (1 : Int32)) _ _ _ _ hf K hP hD hS (lv_sub hl [1, 2, 3, 4, 5, 6, 7, 0] rfl)
      · have hf := ob_pos c2 hf
        refine lv_iload hx hb dX11_lacks_28 (lv_at hl 5 rfl) ?_
        refine lv_aload_n hx hb dX11_lacks_30 rfl (lv_at hl 0 rfl) ?_
        refine va_get (D := D) (ci := 10) (v := .ref a_sets) (C := RX11) (T := TX11) (N := 17) hx hb hts iX11 hown hK hP 0 rfl rfl 1 (by decide) fl7 (fun _ h9 => h9) rfl dX11_lacks_31 ?_
        refine lv_iload hx hb dX11_lacks_34 (lv_at hl 7 rfl) ?_
        obtain ⟨h3, hf⟩ := og_in hf
        refine va_iald hx hb hK hP 1 0 rfl rfl h3 dX11_lacks_36 ?_
        refine lv_ior hx hb dX11_lacks_37 ?_
        refine lv_istore (lv' := [(5, .int (y5 ||| (v_sets y7.toNatClampNeg))), (0, .ref a_this), (1, .int y1), (2, .int y2), (3, .int y3), (4, .int y4), (6, .int y6), (7, .int y7)]) hx hb dX11_lacks_38 hl (by decide) rfl (fun ls hl => ?_)
        refine lv_iload_n hx hb dX11_lacks_40 rfl (lv_at hl 3 rfl) ?_
        refine lv_aload_n hx hb dX11_lacks_41 rfl (lv_at hl 1 rfl) ?_
        refine va_get (D := D) (ci := 10) (v := .ref a_sets) (C := RX11) (T := TX11) (N := 17) hx hb hts iX11 hown hK hP 0 rfl rfl 1 (by decide) fl7 (fun _ h9 => h9) rfl dX11_lacks_42 ?_
        refine lv_iload hx hb dX11_lacks_45 (lv_at hl 7 rfl) ?_
        obtain ⟨h4, hf⟩ := og_in hf
        refine va_iald hx hb hK hP 1 0 rfl rfl h4 dX11_lacks_47 ?_
        refine lv_iand hx hb dX11_lacks_48 ?_
        obtain ⟨q5, hq5, hf⟩ := ob_bind hf
        refine k_Si (wo := (wd_X11_lacks cyI cyJ cyZ a_this a_sets a_papers a_worths a_sign a_hallSign a_chosen a_upper a_lower v_heaps v_seats v_signs v_hallMany v_chosenSet v_paidSeats v_rhoUp v_rhoBy v_breachGroup v_sets)) (As := [.int (y2 &&& (v_sets y7.toNatClampNeg))]) (rest := []) C (c_X11_bits l D cyI cyJ cyZ   (y2 &&& (v_sets y7.toNatClampNeg)) q5 hq5) cw60 hP hD hS [] [0, 1] [0, 1] rfl rfl rfl (by decide) rfl rfl hl.1 (Nat.le_of_ble_eq_true rfl) dX11_lacks_49 ⟨Nat.zero_le _, Nat.zero_le _⟩ (fun H locs hP hD hS => ?_)
        refine lv_iload hx hb dX11_lacks_52 (lv_at hl 6 rfl) ?_
        refine lv_icmp_le (tgt := 72) hx hb dX11_lacks_54 (by decide) (fun c6 => ?_) (fun c6 => ?_)
        · have hf := ob_pos c6 hf
          refine lv_iload hx hb dX11_lacks_72 (lv_at hl 6 rfl) ?_
          refine lv_istore (lv' := [(6, .int y6), (5, .int (y5 ||| (v_sets y7.toNatClampNeg))), (0, .ref a_this), (1, .int y1), (2, .int y2), (3, .int y3), (4, .int y4), (7, .int y7)]) hx hb dX11_lacks_74 hl (by decide) rfl (fun ls hl => ?_)
          refine lv_iinc (v := (y7 + (1 : Int32))) (lv' := [(7, .int (y7 + (1 : Int32))), (6, .int y6), (5, .int (y5 ||| (v_sets y7.toNatClampNeg))), (0, .ref a_this), (1, .int y1), (2, .int y2), (3, .int y3), (4, .int y4)]) hx hb dX11_lacks_76 hl (k := 7) rfl rfl (by decide) rfl (fun ls hl => ?_)
          refine lv_goto (tgt := 9) hx hb dX11_lacks_79 (by decide) ?_
          exact ih (y5 ||| (v_sets y7.toNatClampNeg)) y6 (y7 + (1 : Int32)) _ _ _ _ hf K hP hD hS (lv_sub hl [3, 4, 5, 6, 7, 2, 1, 0] rfl)
        · have hf := ob_neg c6 hf
          refine lv_iload_n hx hb dX11_lacks_57 rfl (lv_at hl 3 rfl) ?_
          refine lv_aload_n hx hb dX11_lacks_58 rfl (lv_at hl 1 rfl) ?_
          refine va_get (D := D) (ci := 10) (v := .ref a_sets) (C := RX11) (T := TX11) (N := 17) hx hb hts iX11 hown hK hP 0 rfl rfl 1 (by decide) fl7 (fun _ h9 => h9) rfl dX11_lacks_59 ?_
          refine lv_iload hx hb dX11_lacks_62 (lv_at hl 7 rfl) ?_
          obtain ⟨h7, hf⟩ := og_in hf
          refine va_iald hx hb hK hP 1 0 rfl rfl h7 dX11_lacks_64 ?_
          refine lv_iand hx hb dX11_lacks_65 ?_
          obtain ⟨q8, hq8, hf⟩ := ob_bind hf
          refine k_Si (wo := (wd_X11_lacks cyI cyJ cyZ a_this a_sets a_papers a_worths a_sign a_hallSign a_chosen a_upper a_lower v_heaps v_seats v_signs v_hallMany v_chosenSet v_paidSeats v_rhoUp v_rhoBy v_breachGroup v_sets)) (As := [.int (y2 &&& (v_sets y7.toNatClampNeg))]) (rest := []) C (c_X11_bits l D cyI cyJ cyZ   (y2 &&& (v_sets y7.toNatClampNeg)) q8 hq8) cw60 hP hD hS [] [0, 1] [0, 1] rfl rfl rfl (by decide) rfl rfl hl.1 (Nat.le_of_ble_eq_true rfl) dX11_lacks_66 ⟨Nat.zero_le _, Nat.zero_le _⟩ (fun H locs hP hD hS => ?_)
          refine lv_goto (tgt := 74) hx hb dX11_lacks_69 (by decide) ?_
          refine lv_istore (lv' := [(6, .int q8), (5, .int (y5 ||| (v_sets y7.toNatClampNeg))), (0, .ref a_this), (1, .int y1), (2, .int y2), (3, .int y3), (4, .int y4), (7, .int y7)]) hx hb dX11_lacks_74 hl (by decide) rfl (fun ls hl => ?_)
          refine lv_iinc (v := (y7 + (1 : Int32))) (lv' := [(7, .int (y7 + (1 : Int32))), (6, .int q8), (5, .int (y5 ||| (v_sets y7.toNatClampNeg))), (0, .ref a_this), (1, .int y1), (2, .int y2), (3, .int y3), (4, .int y4)]) hx hb dX11_lacks_76 hl (k := 7) rfl rfl (by decide) rfl (fun ls hl => ?_)
          refine lv_goto (tgt := 9) hx hb dX11_lacks_79 (by decide) ?_
          exact ih (y5 ||| (v_sets y7.toNatClampNeg)) q8 (y7 + (1 : Int32)) _ _ _ _ hf K hP hD hS (lv_sub hl [3, 4, 5, 6, 7, 2, 1, 0] rfl)
set_option maxHeartbeats 4000000 in
set_option maxRecDepth 100000 in
theorem c_X11_lacks (l : Launch) (D : va_G) (cyI cyJ cyZ : ClassId) (a_this a_sets a_papers a_worths a_sign a_hallSign a_chosen a_upper a_lower : Nat) (v_heaps : Int32) (v_seats : Int32) (v_signs : Int32) (v_hallMany : Int32) (v_chosenSet : Int32) (v_paidSeats : Int32) (v_rhoUp : Int64) (v_rhoBy : Int64) (v_breachGroup : Int32) (v_sets : Nat → Int32) (x1 : Int32) (x2 : Int32) (x3 : Int32) (x4 : Int32) (q : Int32) (hf : f_X11_lacks x1 x2 x3 x4 v_heaps v_sets = some q) : kMz l yX11_lacks wsX11_lacks rm_X11_lacks D (kTy cyI cyJ cyZ) [.ref a_this, .int x1, .int x2, .int x3, .int x4] (wd_X11_lacks cyI cyJ cyZ a_this a_sets a_papers a_worths a_sign a_hallSign a_chosen a_upper a_lower v_heaps v_seats v_signs v_hallMany v_chosenSet v_paidSeats v_rhoUp v_rhoBy v_breachGroup v_sets) (wd_X11_lacks cyI cyJ cyZ a_this a_sets a_papers a_worths a_sign a_hallSign a_chosen a_upper a_lower v_heaps v_seats v_signs v_hallMany v_chosenSet v_paidSeats v_rhoUp v_rhoBy v_breachGroup v_sets) q := by
  refine kMz_of (cc := cX11_lacks) (nL := 8) (own := RX11) (by decide) rfl rfl (Nat.le_of_ble_eq_true rfl) ?_
  intro p e s m below meth c A Q ls C hret hP hD hS hl
  have hl : lv_has ls 8 [(0, .ref a_this), (1, .int x1), (2, .int x2), (3, .int x3), (4, .int x4)] := hl
  unfold f_X11_lacks at hf
  obtain ⟨hx, hb, hml, hown, hts, hK, hA⟩ := id C
  have cw60 := va_cwS (R := rm_X11_lacks) (rm := rm_X11_bits) 1 hts gX11_lacks_X11_bits rfl rfl rfl (by decide +kernel) ⟨Nat.le_of_ble_eq_true rfl, Nat.le_of_ble_eq_true rfl⟩
  refine lv_iconst (v := (0 : Int32)) hx hb dX11_lacks_0 (by decide) ?_
  refine lv_istore (lv' := [(5, .int (0 : Int32)), (0, .ref a_this), (1, .int x1), (2, .int x2), (3, .int x3), (4, .int x4)]) hx hb dX11_lacks_1 hl (by decide) rfl (fun ls hl => ?_)
  refine lv_iconst (v := (0 : Int32)) hx hb dX11_lacks_3 (by decide) ?_
  refine lv_istore (lv' := [(6, .int (0 : Int32)), (5, .int (0 : Int32)), (0, .ref a_this), (1, .int x1), (2, .int x2), (3, .int x3), (4, .int x4)]) hx hb dX11_lacks_4 hl (by decide) rfl (fun ls hl => ?_)
  refine lv_iconst (v := (0 : Int32)) hx hb dX11_lacks_6 (by decide) ?_
  refine lv_istore (lv' := [(7, .int (0 : Int32)), (6, .int (0 : Int32)), (5, .int (0 : Int32)), (0, .ref a_this), (1, .int x1), (2, .int x2), (3, .int x3), (4, .int x4)]) hx hb dX11_lacks_7 hl (by decide) rfl (fun ls hl => ?_)
  obtain ⟨q9, hq9, hf⟩ := ob_bind hf
  refine wl_X11_lacks_9 C FU (0 : Int32) (0 : Int32) (0 : Int32) _ _ _ _ hq9 (fun H locs ls hP hD hS hl => ?_) hP hD hS (lv_sub hl [3, 4, 5, 6, 7, 2, 1, 0] rfl)
  refine lv_iload_n hx hb dX11_lacks_82 rfl (lv_at hl 0 rfl) ?_
  refine lv_iconst (v := (1 : Int32)) hx hb dX11_lacks_83 (by decide) ?_
  refine lv_icmp_ne (tgt := 107) hx hb dX11_lacks_84 (by decide) (fun c10 => ?_) (fun c10 => ?_)
  · have hf := ob_neg c10 hf
    refine lv_iload hx hb dX11_lacks_107 (lv_at hl 4 rfl) ?_
    refine lv_iload hx hb dX11_lacks_109 (lv_at hl 2 rfl) ?_
    refine lv_icmp_ge (tgt := 118) hx hb dX11_lacks_111 (by decide) (fun c11 => ?_) (fun c11 => ?_)
    · have hf := ob_pos c11 hf
      refine lv_iconst (v := (0 : Int32)) hx hb dX11_lacks_118 (by decide) ?_
      obtain rfl := Option.some.inj hf
      exact hret _ _ _ _ narrow_b0 dX11_lacks_119 hP hD hS
    · have hf := ob_neg c11 hf
      refine lv_iconst (v := (1 : Int32)) hx hb dX11_lacks_114 (by decide) ?_
      refine lv_goto (tgt := 119) hx hb dX11_lacks_115 (by decide) ?_
      obtain rfl := Option.some.inj hf
      exact hret _ _ _ _ narrow_b1 dX11_lacks_119 hP hD hS
  · have hf := ob_pos c10 hf
    refine lv_iload hx hb dX11_lacks_87 (lv_at hl 3 rfl) ?_
    refine lv_iload_n hx hb dX11_lacks_89 rfl (lv_at hl 1 rfl) ?_
    refine lv_iand hx hb dX11_lacks_90 ?_
    obtain ⟨q12, hq12, hf⟩ := ob_bind hf
    refine k_Si (wo := (wd_X11_lacks cyI cyJ cyZ a_this a_sets a_papers a_worths a_sign a_hallSign a_chosen a_upper a_lower v_heaps v_seats v_signs v_hallMany v_chosenSet v_paidSeats v_rhoUp v_rhoBy v_breachGroup v_sets)) (As := [.int (q9.1 &&& x2)]) (rest := []) C (c_X11_bits l D cyI cyJ cyZ   (q9.1 &&& x2) q12 hq12) cw60 hP hD hS [] [0, 1] [0, 1] rfl rfl rfl (by decide) rfl rfl hl.1 (Nat.le_of_ble_eq_true rfl) dX11_lacks_91 ⟨Nat.zero_le _, Nat.zero_le _⟩ (fun H locs hP hD hS => ?_)
    refine lv_iload hx hb dX11_lacks_94 (lv_at hl 2 rfl) ?_
    refine lv_icmp_ge (tgt := 103) hx hb dX11_lacks_96 (by decide) (fun c13 => ?_) (fun c13 => ?_)
    · have hf := ob_pos c13 hf
      refine lv_iconst (v := (0 : Int32)) hx hb dX11_lacks_103 (by decide) ?_
      refine lv_goto (tgt := 119) hx hb dX11_lacks_104 (by decide) ?_
      obtain rfl := Option.some.inj hf
      exact hret _ _ _ _ narrow_b0 dX11_lacks_119 hP hD hS
    · have hf := ob_neg c13 hf
      refine lv_iconst (v := (1 : Int32)) hx hb dX11_lacks_99 (by decide) ?_
      refine lv_goto (tgt := 119) hx hb dX11_lacks_100 (by decide) ?_
      obtain rfl := Option.some.inj hf
      exact hret _ _ _ _ narrow_b1 dX11_lacks_119 hP hD hS
abbrev rm_X11_breachOf : Room := { frames := 2, cells := 0, slots := 0, locals := 49 }
abbrev wd_X11_breachOf (cyI cyJ cyZ : ClassId) (a_this a_sets a_papers a_worths a_sign a_hallSign a_chosen a_upper a_lower : Nat) (v_heaps : Int32) (v_seats : Int32) (v_signs : Int32) (v_hallMany : Int32) (v_chosenSet : Int32) (v_paidSeats : Int32) (v_rhoUp : Int64) (v_rhoBy : Int64) (v_breachGroup : Int32) (v_papers : Nat → Int32) (v_sets : Nat → Int32) : va_W := [(a_this, .inr (10, [.int v_heaps, .ref a_sets, .ref a_papers, .int v_seats, .ref a_worths, .int v_signs, .ref a_sign, .int v_hallMany, .ref a_hallSign, .ref a_chosen, .int v_chosenSet, .int v_paidSeats, .ref a_upper, .ref a_lower, .long v_rhoUp, .long v_rhoBy, .int v_breachGroup])), (a_papers, .inl (cyI, 7, .inl v_papers)), (a_sets, .inl (cyI, 7, .inl v_sets))]
def lp_X11_breachOf_18 (y1 : Int32) (y2 : Int32) (y3 : Int32) (v_heaps : Int32) (v_seats : Int32) (v_papers : Nat → Int32) (v_sets : Nat → Int32) (k : (Int32) → Option (Int32 × Int32)) : Nat → Int32 → Int32 → Option (Int32 × Int32)
  | 0, _, _ => none
  | n + 1, y4, v_breachGroup => (if ((1 : Int32) <<< (v_heaps &&& 31)) ≤ y4 then k v_breachGroup else (f_X11_isOwed y4 y3 v_heaps v_seats v_papers v_sets).bind (fun q4 => (if q4 = 0 then lp_X11_breachOf_18 y1 y2 y3 v_heaps v_seats v_papers v_sets k n (y4 + (1 : Int32)) v_breachGroup else (f_X11_lacks y1 y2 y4 y3 v_heaps v_sets).bind (fun q6 => (if q6 = 0 then lp_X11_breachOf_18 y1 y2 y3 v_heaps v_seats v_papers v_sets k n (y4 + (1 : Int32)) v_breachGroup else some (y3, y4))))))
def lp_X11_breachOf_2 (y1 : Int32) (y2 : Int32) (v_heaps : Int32) (v_seats : Int32) (v_papers : Nat → Int32) (v_sets : Nat → Int32) (k : (Int32) → Option (Int32 × Int32)) : Nat → Int32 → Int32 → Option (Int32 × Int32)
  | 0, _, _ => none
  | n + 1, y3, v_breachGroup => (if y1 = 0 then (if (1 : Int32) < y3 then k v_breachGroup else lp_X11_breachOf_18 y1 y2 y3 v_heaps v_seats v_papers v_sets (fun q10 => lp_X11_breachOf_2 y1 y2 v_heaps v_seats v_papers v_sets k n (y3 + (1 : Int32)) q10) FU (1 : Int32) v_breachGroup) else (if (4 : Int32) < y3 then k v_breachGroup else lp_X11_breachOf_18 y1 y2 y3 v_heaps v_seats v_papers v_sets (fun q8 => lp_X11_breachOf_2 y1 y2 v_heaps v_seats v_papers v_sets k n (y3 + (1 : Int32)) q8) FU (1 : Int32) v_breachGroup))
def f_X11_breachOf (x1 : Int32) (x2 : Int32) (v_heaps : Int32) (v_seats : Int32) (v_breachGroup : Int32) (v_papers : Nat → Int32) (v_sets : Nat → Int32) : Option (Int32 × Int32) := lp_X11_breachOf_2 x1 x2 v_heaps v_seats v_papers v_sets (fun q11 => some ((-6 : Int32), (-6 : Int32))) FU (1 : Int32) v_breachGroup
set_option maxHeartbeats 4000000 in
set_option maxRecDepth 100000 in
theorem wl_X11_breachOf_18 {p : Program} {l : Launch} {e : Env} {s : State} {m : MethodId} {args : Array Value} {below : List Frame} {meth : Method} {c : Code} {A : Nat → Prop} {Q : State → Prop} {D : va_G} {cyI cyJ cyZ : ClassId} {a_this a_sets a_papers a_worths a_sign a_hallSign a_chosen a_upper a_lower : Nat} {y1 : Int32} {y2 : Int32} {y3 : Int32} {v_heaps : Int32} {v_seats : Int32} {v_signs : Int32} {v_hallMany : Int32} {v_chosenSet : Int32} {v_paidSeats : Int32} {v_rhoUp : Int64} {v_rhoBy : Int64} {v_papers : Nat → Int32} {v_sets : Nat → Int32} {k : (Int32) → Option (Int32 × Int32)} {q : Int32 × Int32} (C : kC p s m args c cX11_breachOf 5 RX11 wsX11_breachOf D (kTy cyI cyJ cyZ) A) (hret : ∀ (pc : Nat) (H : Heap) (locs : List Loc) (ls : Array Slot), decode cX11_breachOf pc = .ok (.ireturn, 1) → va_P D vwCl (wd_X11_breachOf cyI cyJ cyZ a_this a_sets a_papers a_worths a_sign a_hallSign a_chosen a_upper a_lower v_heaps v_seats v_signs v_hallMany v_chosenSet v_paidSeats v_rhoUp v_rhoBy q.2 v_papers v_sets) H → va_D A (wd_X11_breachOf cyI cyJ cyZ a_this a_sets a_papers a_worths a_sign a_hallSign a_chosen a_upper a_lower v_heaps v_seats v_signs v_hallMany v_chosenSet v_paidSeats v_rhoUp v_rhoBy q.2 v_papers v_sets) → va_S A s.heap H locs → W p l e rm_X11_breachOf s m args below meth c H locs 0 0 Q (F0 m pc ls [.int q.1])) (K : (∀ (x : Int32) (H : Heap) (locs : List Loc) (ls : Array Slot), k x = some q → va_P D vwCl (wd_X11_breachOf cyI cyJ cyZ a_this a_sets a_papers a_worths a_sign a_hallSign a_chosen a_upper a_lower v_heaps v_seats v_signs v_hallMany v_chosenSet v_paidSeats v_rhoUp v_rhoBy x v_papers v_sets) H → va_D A (wd_X11_breachOf cyI cyJ cyZ a_this a_sets a_papers a_worths a_sign a_hallSign a_chosen a_upper a_lower v_heaps v_seats v_signs v_hallMany v_chosenSet v_paidSeats v_rhoUp v_rhoBy x v_papers v_sets) → va_S A s.heap H locs → lv_has ls 5 [(0, .ref a_this), (1, .int y1), (2, .int y2), (3, .int y3)] → W p l e rm_X11_breachOf s m args below meth c H locs 0 0 Q (F0 m 65 ls []))) :
    ∀ (n : Nat) (y4 : Int32) (v_breachGroup : Int32) (H : Heap) (locs : List Loc) (ls : Array Slot), lp_X11_breachOf_18 y1 y2 y3 v_heaps v_seats v_papers v_sets k n y4 v_breachGroup = some q → va_P D vwCl (wd_X11_breachOf cyI cyJ cyZ a_this a_sets a_papers a_worths a_sign a_hallSign a_chosen a_upper a_lower v_heaps v_seats v_signs v_hallMany v_chosenSet v_paidSeats v_rhoUp v_rhoBy v_breachGroup v_papers v_sets) H → va_D A (wd_X11_breachOf cyI cyJ cyZ a_this a_sets a_papers a_worths a_sign a_hallSign a_chosen a_upper a_lower v_heaps v_seats v_signs v_hallMany v_chosenSet v_paidSeats v_rhoUp v_rhoBy v_breachGroup v_papers v_sets) → va_S A s.heap H locs → lv_has ls 5 [(0, .ref a_this), (1, .int y1), (2, .int y2), (3, .int y3), (4, .int y4)] → W p l e rm_X11_breachOf s m args below meth c H locs 0 0 Q (F0 m 18 ls []) := by
  obtain ⟨hx, hb, hml, hown, hts, hK, hA⟩ := id C
  have iX11 : ∀ w ∈ u_ws RX11 TX11 17, w ∈ wsX11_breachOf := by decide +kernel
  have fl39 := hts (.fieldLink RX11 39 "FairSeatsModel" "heaps" "I") (by decide +kernel)
  have fl158 := hts (.fieldLink RX11 158 "FairSeatsModel" "breachGroup" "I") (by decide +kernel)
  have cw151 := cwV (R := rm_X11_breachOf) (rm := rm_X11_isOwed) 2 hts gX11_breachOf_X11_isOwed rfl rfl rfl (by decide +kernel) ⟨Nat.le_of_ble_eq_true rfl, Nat.le_of_ble_eq_true rfl⟩
  have cw154 := cwV (R := rm_X11_breachOf) (rm := rm_X11_lacks) 4 hts gX11_breachOf_X11_lacks rfl rfl rfl (by decide +kernel) ⟨Nat.le_of_ble_eq_true rfl, Nat.le_of_ble_eq_true rfl⟩
  intro n
  induction n with
  | zero =>
    intro y4 v_breachGroup H locs ls hf hP hD hS hl
    rw [lp_X11_breachOf_18] at hf
    cases hf
  | succ n ih =>
    intro y4 v_breachGroup H locs ls hf hP hD hS hl
    rw [lp_X11_breachOf_18] at hf
    refine lv_iload hx hb dX11_breachOf_18 (lv_at hl 4 rfl) ?_
    refine lv_iconst (v := (1 : Int32)) hx hb dX11_breachOf_20 (by decide) ?_
    refine lv_aload_n hx hb dX11_breachOf_21 rfl (lv_at hl 0 rfl) ?_
    refine va_get (D := D) (ci := 10) (v := .int v_heaps) (C := RX11) (T := TX11) (N := 17) hx hb hts iX11 hown hK hP 0 rfl rfl 0 (by decide) fl39 (fun _ h9 => h9) rfl dX11_breachOf_22 ?_
    refine lv_ishl hx hb dX11_breachOf_25 ?_
    refine lv_icmp_ge (tgt := 65) hx hb dX11_breachOf_26 (by decide) (fun c3 => ?_) (fun c3 => ?_)
    · have hf := ob_pos c3 hf
      exact K v_breachGroup _ _ _ hf hP hD hS (lv_sub hl [0, 1, 2, 3] rfl)
    · have hf := ob_neg c3 hf
      refine lv_aload_n hx hb dX11_breachOf_29 rfl (lv_at hl 0 rfl) ?_
      refine lv_iload hx hb dX11_breachOf_30 (lv_at hl 4 rfl) ?_
      refine lv_iload_n hx hb dX11_breachOf_32 rfl (lv_at hl 3 rfl) ?_
      obtain ⟨q4, hq4, hf⟩ := ob_bind hf
      refine k_Vz (wo := (wd_X11_breachOf cyI cyJ cyZ a_this a_sets a_papers a_worths a_sign a_hallSign a_chosen a_upper a_lower v_heaps v_seats v_signs v_hallMany v_chosenSet v_paidSeats v_rhoUp v_rhoBy v_breachGroup v_papers v_sets)) (As := [.int y4, .int y3]) (rest := []) C (c_X11_isOwed l D cyI cyJ cyZ a_this a_sets a_papers a_worths a_sign a_hallSign a_chosen a_upper a_lower v_heaps v_seats v_signs v_hallMany v_chosenSet v_paidSeats v_rhoUp v_rhoBy v_breachGroup v_papers v_sets y4 y3 q4 hq4) cw151 hP hD hS [0, 1, 2] [] [0, 1, 2] rfl rfl rfl (by decide) 0 (ci := 10) rfl rfl rfl rfl rfl hl.1 (Nat.le_of_ble_eq_true rfl) dX11_breachOf_33 ⟨Nat.zero_le _, Nat.zero_le _⟩ (fun H locs zq4 hP hD hS => ?_)
      refine lv_if_eq (tgt := 59) hx hb dX11_breachOf_36 (by decide) (fun c5 => ?_) (fun c5 => ?_)
      · have hf := ob_pos c5 hf
        refine lv_iinc (v := (y4 + (1 : Int32))) (lv' := [(4, .int (y4 + (1 : Int32))), (0, .ref a_this), (1, .int y1), (2, .int y2), (3, .int y3)]) hx hb dX11_breachOf_59 hl (k := 4) rfl rfl (by decide) rfl (fun ls hl => ?_)
        refine lv_goto (tgt := 18) hx hb dX11_breachOf_62 (by decide) ?_
        exact ih (y4 + (1 : Int32)) v_breachGroup _ _ _ hf hP hD hS (lv_sub hl [1, 2, 3, 4, 0] rfl)
      · have hf := ob_neg c5 hf
        refine lv_aload_n hx hb dX11_breachOf_39 rfl (lv_at hl 0 rfl) ?_
        refine lv_iload_n hx hb dX11_breachOf_40 rfl (lv_at hl 1 rfl) ?_
        refine lv_iload_n hx hb dX11_breachOf_41 rfl (lv_at hl 2 rfl) ?_
        refine lv_iload hx hb dX11_breachOf_42 (lv_at hl 4 rfl) ?_
        refine lv_iload_n hx hb dX11_breachOf_44 rfl (lv_at hl 3 rfl) ?_
        obtain ⟨q6, hq6, hf⟩ := ob_bind hf
        refine k_Vz (wo := (wd_X11_breachOf cyI cyJ cyZ a_this a_sets a_papers a_worths a_sign a_hallSign a_chosen a_upper a_lower v_heaps v_seats v_signs v_hallMany v_chosenSet v_paidSeats v_rhoUp v_rhoBy v_breachGroup v_papers v_sets)) (As := [.int y1, .int y2, .int y4, .int y3]) (rest := []) C (c_X11_lacks l D cyI cyJ cyZ a_this a_sets a_papers a_worths a_sign a_hallSign a_chosen a_upper a_lower v_heaps v_seats v_signs v_hallMany v_chosenSet v_paidSeats v_rhoUp v_rhoBy v_breachGroup v_sets y1 y2 y4 y3 q6 hq6) cw154 hP hD hS [0, 2] [1] [1, 0, 2] rfl rfl rfl (by decide) 0 (ci := 10) rfl rfl rfl rfl rfl hl.1 (Nat.le_of_ble_eq_true rfl) dX11_breachOf_45 ⟨Nat.zero_le _, Nat.zero_le _⟩ (fun H locs zq6 hP hD hS => ?_)
        refine lv_if_eq (tgt := 59) hx hb dX11_breachOf_48 (by decide) (fun c7 => ?_) (fun c7 => ?_)
        · have hf := ob_pos c7 hf
          refine lv_iinc (v := (y4 + (1 : Int32))) (lv' := [(4, .int (y4 + (1 : Int32))), (0, .ref a_this), (1, .int y1), (2, .int y2), (3, .int y3)]) hx hb dX11_breachOf_59 hl (k := 4) rfl rfl (by decide) rfl (fun ls hl => ?_)
          refine lv_goto (tgt := 18) hx hb dX11_breachOf_62 (by decide) ?_
          exact ih (y4 + (1 : Int32)) v_breachGroup _ _ _ hf hP hD hS (lv_sub hl [1, 2, 3, 4, 0] rfl)
        · have hf := ob_neg c7 hf
          refine lv_aload_n hx hb dX11_breachOf_51 rfl (lv_at hl 0 rfl) ?_
          refine lv_iload hx hb dX11_breachOf_52 (lv_at hl 4 rfl) ?_
          refine va_put (D := D) (ci := 10) (v := .int y4) (ty := .int) (C := RX11) (T := TX11) (N := 17) hx hb hts iX11 tyX11 tyX11_ok nmX11 hown hK hP hD hS 0 rfl rfl 16 (by decide) fl158 (fun _ h9 => h9) rfl (by decide +kernel) rfl rfl (Nat.le_of_ble_eq_true rfl) dX11_breachOf_54 (fun H locs hP hD hS => ?_)
          have hP : va_P D vwCl (wd_X11_breachOf cyI cyJ cyZ a_this a_sets a_papers a_worths a_sign a_hallSign a_chosen a_upper a_lower v_heaps v_seats v_signs v_hallMany v_chosenSet v_paidSeats v_rhoUp v_rhoBy y4 v_papers v_sets) H := hP
          have hD : va_D A (wd_X11_breachOf cyI cyJ cyZ a_this a_sets a_papers a_worths a_sign a_hallSign a_chosen a_upper a_lower v_heaps v_seats v_signs v_hallMany v_chosenSet v_paidSeats v_rhoUp v_rhoBy y4 v_papers v_sets) := hD
          refine lv_iload_n hx hb dX11_breachOf_57 rfl (lv_at hl 3 rfl) ?_
          obtain rfl := Option.some.inj hf
          exact hret _ _ _ _ dX11_breachOf_58 hP hD hS
set_option maxHeartbeats 4000000 in
set_option maxRecDepth 100000 in
theorem wl_X11_breachOf_2 {p : Program} {l : Launch} {e : Env} {s : State} {m : MethodId} {args : Array Value} {below : List Frame} {meth : Method} {c : Code} {A : Nat → Prop} {Q : State → Prop} {D : va_G} {cyI cyJ cyZ : ClassId} {a_this a_sets a_papers a_worths a_sign a_hallSign a_chosen a_upper a_lower : Nat} {y1 : Int32} {y2 : Int32} {v_heaps : Int32} {v_seats : Int32} {v_signs : Int32} {v_hallMany : Int32} {v_chosenSet : Int32} {v_paidSeats : Int32} {v_rhoUp : Int64} {v_rhoBy : Int64} {v_papers : Nat → Int32} {v_sets : Nat → Int32} {k : (Int32) → Option (Int32 × Int32)} {q : Int32 × Int32} (C : kC p s m args c cX11_breachOf 5 RX11 wsX11_breachOf D (kTy cyI cyJ cyZ) A) (hret : ∀ (pc : Nat) (H : Heap) (locs : List Loc) (ls : Array Slot), decode cX11_breachOf pc = .ok (.ireturn, 1) → va_P D vwCl (wd_X11_breachOf cyI cyJ cyZ a_this a_sets a_papers a_worths a_sign a_hallSign a_chosen a_upper a_lower v_heaps v_seats v_signs v_hallMany v_chosenSet v_paidSeats v_rhoUp v_rhoBy q.2 v_papers v_sets) H → va_D A (wd_X11_breachOf cyI cyJ cyZ a_this a_sets a_papers a_worths a_sign a_hallSign a_chosen a_upper a_lower v_heaps v_seats v_signs v_hallMany v_chosenSet v_paidSeats v_rhoUp v_rhoBy q.2 v_papers v_sets) → va_S A s.heap H locs → W p l e rm_X11_breachOf s m args below meth c H locs 0 0 Q (F0 m pc ls [.int q.1])) (K : (∀ (x : Int32) (H : Heap) (locs : List Loc) (ls : Array Slot), k x = some q → va_P D vwCl (wd_X11_breachOf cyI cyJ cyZ a_this a_sets a_papers a_worths a_sign a_hallSign a_chosen a_upper a_lower v_heaps v_seats v_signs v_hallMany v_chosenSet v_paidSeats v_rhoUp v_rhoBy x v_papers v_sets) H → va_D A (wd_X11_breachOf cyI cyJ cyZ a_this a_sets a_papers a_worths a_sign a_hallSign a_chosen a_upper a_lower v_heaps v_seats v_signs v_hallMany v_chosenSet v_paidSeats v_rhoUp v_rhoBy x v_papers v_sets) → va_S A s.heap H locs → lv_has ls 5 [(0, .ref a_this)] → W p l e rm_X11_breachOf s m args below meth c H locs 0 0 Q (F0 m 71 ls []))) :
    ∀ (n : Nat) (y3 : Int32) (v_breachGroup : Int32) (H : Heap) (locs : List Loc) (ls : Array Slot), lp_X11_breachOf_2 y1 y2 v_heaps v_seats v_papers v_sets k n y3 v_breachGroup = some q → va_P D vwCl (wd_X11_breachOf cyI cyJ cyZ a_this a_sets a_papers a_worths a_sign a_hallSign a_chosen a_upper a_lower v_heaps v_seats v_signs v_hallMany v_chosenSet v_paidSeats v_rhoUp v_rhoBy v_breachGroup v_papers v_sets) H → va_D A (wd_X11_breachOf cyI cyJ cyZ a_this a_sets a_papers a_worths a_sign a_hallSign a_chosen a_upper a_lower v_heaps v_seats v_signs v_hallMany v_chosenSet v_paidSeats v_rhoUp v_rhoBy v_breachGroup v_papers v_sets) → va_S A s.heap H locs → lv_has ls 5 [(0, .ref a_this), (1, .int y1), (2, .int y2), (3, .int y3)] → W p l e rm_X11_breachOf s m args below meth c H locs 0 0 Q (F0 m 2 ls []) := by
  obtain ⟨hx, hb, hml, hown, hts, hK, hA⟩ := id C
  intro n
  induction n with
  | zero =>
    intro y3 v_breachGroup H locs ls hf hP hD hS hl
    rw [lp_X11_breachOf_2] at hf
    cases hf
  | succ n ih =>
    intro y3 v_breachGroup H locs ls hf hP hD hS hl
    rw [lp_X11_breachOf_2] at hf
    refine lv_iload_n hx hb dX11_breachOf_2 rfl (lv_at hl 3 rfl) ?_
    refine lv_iload_n hx hb dX11_breachOf_3 rfl (lv_at hl 1 rfl) ?_
    refine lv_if_ne (tgt := 11) hx hb dX11_breachOf_4 (by decide) (fun c1 => ?_) (fun c1 => ?_)
    · have hf := ob_neg c1 hf
      refine lv_iconst (v := (4 : Int32)) hx hb dX11_breachOf_11 (by decide) ?_
      refine lv_icmp_gt (tgt := 71) hx hb dX11_breachOf_12 (by decide) (fun c2 => ?_) (fun c2 => ?_)
      · have hf := ob_pos c2 hf
        exact K v_breachGroup _ _ _ hf hP hD hS (lv_sub hl [0] rfl)
      · have hf := ob_neg c2 hf
        refine lv_iconst (v := (1 : Int32)) hx hb dX11_breachOf_15 (by decide) ?_
        refine lv_istore (lv' := [(4, .int (1 : Int32)), (0, .ref a_this), (1, .int y1), (2, .int y2), (3, .int y3)]) hx hb dX11_breachOf_16 hl (by decide) rfl (fun ls hl => ?_)
        refine wl_X11_breachOf_18 C hret (fun q8 H locs ls hf hP hD hS hl => ?_) FU (1 : Int32) v_breachGroup _ _ _ hf hP hD hS (lv_sub hl [1, 2, 3, 4, 0] rfl)
        refine lv_iinc (v := (y3 + (1 : Int32))) (lv' := [(3, .int (y3 + (1 : Int32))), (0, .ref a_this), (1, .int y1), (2, .int y2)]) hx hb dX11_breachOf_65 hl (k := 3) rfl rfl (by decide) rfl (fun ls hl => ?_)
        refine lv_goto (tgt := 2) hx hb dX11_breachOf_68 (by decide) ?_
        exact ih (y3 + (1 : Int32)) q8 _ _ _ hf hP hD hS (lv_sub hl [1, 2, 3, 0] rfl)
    · have hf := ob_pos c1 hf
      refine lv_iconst (v := (1 : Int32)) hx hb dX11_breachOf_7 (by decide) ?_
      refine lv_goto (tgt := 12) hx hb dX11_breachOf_8 (by decide) ?_
      refine lv_icmp_gt (tgt := 71) hx hb dX11_breachOf_12 (by decide) (fun c9 => ?_) (fun c9 => ?_)
      · have hf := ob_pos c9 hf
        exact K v_breachGroup _ _ _ hf hP hD hS (lv_sub hl [0] rfl)
      · have hf := ob_neg c9 hf
        refine lv_iconst (v := (1 : Int32)) hx hb dX11_breachOf_15 (by decide) ?_
        refine lv_istore (lv' := [(4, .int (1 : Int32)), (0, .ref a_this), (1, .int y1), (2, .int y2), (3, .int y3)]) hx hb dX11_breachOf_16 hl (by decide) rfl (fun ls hl => ?_)
        refine wl_X11_breachOf_18 C hret (fun q10 H locs ls hf hP hD hS hl => ?_) FU (1 : Int32) v_breachGroup _ _ _ hf hP hD hS (lv_sub hl [1, 2, 3, 4, 0] rfl)
        refine lv_iinc (v := (y3 + (1 : Int32))) (lv' := [(3, .int (y3 + (1 : Int32))), (0, .ref a_this), (1, .int y1), (2, .int y2)]) hx hb dX11_breachOf_65 hl (k := 3) rfl rfl (by decide) rfl (fun ls hl => ?_)
        refine lv_goto (tgt := 2) hx hb dX11_breachOf_68 (by decide) ?_
        exact ih (y3 + (1 : Int32)) q10 _ _ _ hf hP hD hS (lv_sub hl [1, 2, 3, 0] rfl)
set_option maxHeartbeats 4000000 in
set_option maxRecDepth 100000 in
theorem c_X11_breachOf (l : Launch) (D : va_G) (cyI cyJ cyZ : ClassId) (a_this a_sets a_papers a_worths a_sign a_hallSign a_chosen a_upper a_lower : Nat) (v_heaps : Int32) (v_seats : Int32) (v_signs : Int32) (v_hallMany : Int32) (v_chosenSet : Int32) (v_paidSeats : Int32) (v_rhoUp : Int64) (v_rhoBy : Int64) (v_breachGroup : Int32) (v_papers : Nat → Int32) (v_sets : Nat → Int32) (x1 : Int32) (x2 : Int32) (q : Int32 × Int32) (hf : f_X11_breachOf x1 x2 v_heaps v_seats v_breachGroup v_papers v_sets = some q) : kMi l yX11_breachOf wsX11_breachOf rm_X11_breachOf D (kTy cyI cyJ cyZ) [.ref a_this, .int x1, .int x2] (wd_X11_breachOf cyI cyJ cyZ a_this a_sets a_papers a_worths a_sign a_hallSign a_chosen a_upper a_lower v_heaps v_seats v_signs v_hallMany v_chosenSet v_paidSeats v_rhoUp v_rhoBy v_breachGroup v_papers v_sets) (wd_X11_breachOf cyI cyJ cyZ a_this a_sets a_papers a_worths a_sign a_hallSign a_chosen a_upper a_lower v_heaps v_seats v_signs v_hallMany v_chosenSet v_paidSeats v_rhoUp v_rhoBy q.2 v_papers v_sets) q.1 := by
  refine kMi_of (cc := cX11_breachOf) (nL := 5) (own := RX11) (by decide) rfl rfl (Nat.le_of_ble_eq_true rfl) ?_
  intro p e s m below meth c A Q ls C hret hP hD hS hl
  have hl : lv_has ls 5 [(0, .ref a_this), (1, .int x1), (2, .int x2)] := hl
  unfold f_X11_breachOf at hf
  obtain ⟨hx, hb, hml, hown, hts, hK, hA⟩ := id C
  have iX11 : ∀ w ∈ u_ws RX11 TX11 17, w ∈ wsX11_breachOf := by decide +kernel
  have fl158 := hts (.fieldLink RX11 158 "FairSeatsModel" "breachGroup" "I") (by decide +kernel)
  refine lv_iconst (v := (1 : Int32)) hx hb dX11_breachOf_0 (by decide) ?_
  refine lv_istore_n (lv' := [(3, .int (1 : Int32)), (0, .ref a_this), (1, .int x1), (2, .int x2)]) hx hb dX11_breachOf_1 rfl hl (by decide) rfl (fun ls hl => ?_)
  refine wl_X11_breachOf_2 C hret (fun q11 H locs ls hf hP hD hS hl => ?_) FU (1 : Int32) v_breachGroup _ _ _ hf hP hD hS (lv_sub hl [1, 2, 3, 0] rfl)
  refine lv_aload_n hx hb dX11_breachOf_71 rfl (lv_at hl 0 rfl) ?_
  refine lv_bipush (v := (-6 : Int32)) hx hb dX11_breachOf_72 (by decide) ?_
  refine va_put (D := D) (ci := 10) (v := .int (-6 : Int32)) (ty := .int) (C := RX11) (T := TX11) (N := 17) hx hb hts iX11 tyX11 tyX11_ok nmX11 hown hK hP hD hS 0 rfl rfl 16 (by decide) fl158 (fun _ h9 => h9) rfl (by decide +kernel) rfl rfl (Nat.le_of_ble_eq_true rfl) dX11_breachOf_74 (fun H locs hP hD hS => ?_)
  have hP : va_P D vwCl (wd_X11_breachOf cyI cyJ cyZ a_this a_sets a_papers a_worths a_sign a_hallSign a_chosen a_upper a_lower v_heaps v_seats v_signs v_hallMany v_chosenSet v_paidSeats v_rhoUp v_rhoBy (-6 : Int32) v_papers v_sets) H := hP
  have hD : va_D A (wd_X11_breachOf cyI cyJ cyZ a_this a_sets a_papers a_worths a_sign a_hallSign a_chosen a_upper a_lower v_heaps v_seats v_signs v_hallMany v_chosenSet v_paidSeats v_rhoUp v_rhoBy (-6 : Int32) v_papers v_sets) := hD
  refine lv_bipush (v := (-6 : Int32)) hx hb dX11_breachOf_77 (by decide) ?_
  obtain rfl := Option.some.inj hf
  exact hret _ _ _ _ dX11_breachOf_79 hP hD hS
abbrev rm_X11_isLaw : Room := { frames := 1, cells := 0, slots := 0, locals := 22 }
abbrev wd_X11_isLaw (cyI cyJ cyZ : ClassId) : va_W := []
def f_X11_isLaw (x0 : Int32) : Option (Int32) := (f_X11_in x0 (0 : Int32) (2 : Int32)).bind (fun q1 => some q1)
set_option maxHeartbeats 4000000 in
set_option maxRecDepth 100000 in
theorem c_X11_isLaw (l : Launch) (D : va_G) (cyI cyJ cyZ : ClassId) (x0 : Int32) (q : Int32) (hf : f_X11_isLaw x0 = some q) : kMz l yX11_isLaw wsX11_isLaw rm_X11_isLaw D (kTy cyI cyJ cyZ) [.int x0] (wd_X11_isLaw cyI cyJ cyZ) (wd_X11_isLaw cyI cyJ cyZ) q := by
  refine kMz_of (cc := cX11_isLaw) (nL := 1) (own := RX11) (by decide) rfl rfl (Nat.le_of_ble_eq_true rfl) ?_
  intro p e s m below meth c A Q ls C hret hP hD hS hl
  have hl : lv_has ls 1 [(0, .int x0)] := hl
  unfold f_X11_isLaw at hf
  obtain ⟨hx, hb, hml, hown, hts, hK, hA⟩ := id C
  have cw42 := va_cwS (R := rm_X11_isLaw) (rm := rm_X11_in) 3 hts gX11_isLaw_X11_in rfl rfl rfl (by decide +kernel) ⟨Nat.le_of_ble_eq_true rfl, Nat.le_of_ble_eq_true rfl⟩
  refine lv_iload_n hx hb dX11_isLaw_0 rfl (lv_at hl 0 rfl) ?_
  refine lv_iconst (v := (0 : Int32)) hx hb dX11_isLaw_1 (by decide) ?_
  refine lv_iconst (v := (2 : Int32)) hx hb dX11_isLaw_2 (by decide) ?_
  obtain ⟨q1, hq1, hf⟩ := ob_bind hf
  refine k_Sz (wo := (wd_X11_isLaw cyI cyJ cyZ)) (As := [.int x0, .int (0 : Int32), .int (2 : Int32)]) (rest := []) C (c_X11_in l D cyI cyJ cyZ   x0 (0 : Int32) (2 : Int32) q1 hq1) cw42 hP hD hS [] [] [] rfl rfl rfl (by decide) rfl rfl hl.1 (Nat.le_of_ble_eq_true rfl) dX11_isLaw_3 ⟨Nat.zero_le _, Nat.zero_le _⟩ (fun H locs zq1 hP hD hS => ?_)
  obtain rfl := Option.some.inj hf
  exact hret _ _ _ _ zq1 dX11_isLaw_6 hP hD hS
abbrev rm_X11_breach : Room := { frames := 3, cells := 0, slots := 0, locals := 73 }
abbrev wd_X11_breach (cyI cyJ cyZ : ClassId) (a_this a_sets a_papers a_worths a_sign a_hallSign a_chosen a_upper a_lower : Nat) (v_heaps : Int32) (v_seats : Int32) (v_signs : Int32) (v_hallMany : Int32) (v_chosenSet : Int32) (v_paidSeats : Int32) (v_rhoUp : Int64) (v_rhoBy : Int64) (v_breachGroup : Int32) (v_papers : Nat → Int32) (v_sets : Nat → Int32) : va_W := [(a_this, .inr (10, [.int v_heaps, .ref a_sets, .ref a_papers, .int v_seats, .ref a_worths, .int v_signs, .ref a_sign, .int v_hallMany, .ref a_hallSign, .ref a_chosen, .int v_chosenSet, .int v_paidSeats, .ref a_upper, .ref a_lower, .long v_rhoUp, .long v_rhoBy, .int v_breachGroup])), (a_papers, .inl (cyI, 7, .inl v_papers)), (a_sets, .inl (cyI, 7, .inl v_sets))]
def f_X11_breach (x1 : Int32) (x2 : Int32) (x3 : Int32) (v_heaps : Int32) (v_seats : Int32) (v_breachGroup : Int32) (v_papers : Nat → Int32) (v_sets : Nat → Int32) : Option (Int32 × Int32) := (f_X11_isLaw x1).bind (fun q1 => (if q1 = 0 then some ((-1 : Int32), v_breachGroup) else (f_X11_isCommittee x2 v_seats).bind (fun q3 => (if q3 = 0 then some ((-2 : Int32), v_breachGroup) else (f_X11_in x3 (0 : Int32) (2 : Int32)).bind (fun q5 => (if q5 = 0 then some ((-2 : Int32), v_breachGroup) else (f_X11_breachOf x1 x2 v_heaps v_seats v_breachGroup v_papers v_sets).bind (fun q7 => (if x3 = 0 then (if 0 ≤ q7.1 then some ((1 : Int32), q7.2) else some ((0 : Int32), q7.2)) else (if x3 = (1 : Int32) then some (q7.1, q7.2) else some (q7.2, q7.2))))))))))
set_option maxHeartbeats 4000000 in
set_option maxRecDepth 100000 in
theorem c_X11_breach (l : Launch) (D : va_G) (cyI cyJ cyZ : ClassId) (a_this a_sets a_papers a_worths a_sign a_hallSign a_chosen a_upper a_lower : Nat) (v_heaps : Int32) (v_seats : Int32) (v_signs : Int32) (v_hallMany : Int32) (v_chosenSet : Int32) (v_paidSeats : Int32) (v_rhoUp : Int64) (v_rhoBy : Int64) (v_breachGroup : Int32) (v_papers : Nat → Int32) (v_sets : Nat → Int32) (x1 : Int32) (x2 : Int32) (x3 : Int32) (q : Int32 × Int32) (hf : f_X11_breach x1 x2 x3 v_heaps v_seats v_breachGroup v_papers v_sets = some q) : kMi l yX11_breach wsX11_breach rm_X11_breach D (kTy cyI cyJ cyZ) [.ref a_this, .int x1, .int x2, .int x3] (wd_X11_breach cyI cyJ cyZ a_this a_sets a_papers a_worths a_sign a_hallSign a_chosen a_upper a_lower v_heaps v_seats v_signs v_hallMany v_chosenSet v_paidSeats v_rhoUp v_rhoBy v_breachGroup v_papers v_sets) (wd_X11_breach cyI cyJ cyZ a_this a_sets a_papers a_worths a_sign a_hallSign a_chosen a_upper a_lower v_heaps v_seats v_signs v_hallMany v_chosenSet v_paidSeats v_rhoUp v_rhoBy q.2 v_papers v_sets) q.1 := by
  refine kMi_of (cc := cX11_breach) (nL := 5) (own := RX11) (by decide) rfl rfl (Nat.le_of_ble_eq_true rfl) ?_
  intro p e s m below meth c A Q ls C hret hP hD hS hl
  have hl : lv_has ls 5 [(0, .ref a_this), (1, .int x1), (2, .int x2), (3, .int x3)] := hl
  unfold f_X11_breach at hf
  obtain ⟨hx, hb, hml, hown, hts, hK, hA⟩ := id C
  have iX11 : ∀ w ∈ u_ws RX11 TX11 17, w ∈ wsX11_breach := by decide +kernel
  have fl158 := hts (.fieldLink RX11 158 "FairSeatsModel" "breachGroup" "I") (by decide +kernel)
  have cw42 := va_cwS (R := rm_X11_breach) (rm := rm_X11_in) 3 hts gX11_breach_X11_in rfl rfl rfl (by decide +kernel) ⟨Nat.le_of_ble_eq_true rfl, Nat.le_of_ble_eq_true rfl⟩
  have cw64 := cwV (R := rm_X11_breach) (rm := rm_X11_isCommittee) 1 hts gX11_breach_X11_isCommittee rfl rfl rfl (by decide +kernel) ⟨Nat.le_of_ble_eq_true rfl, Nat.le_of_ble_eq_true rfl⟩
  have cw161 := va_cwS (R := rm_X11_breach) (rm := rm_X11_isLaw) 1 hts gX11_breach_X11_isLaw rfl rfl rfl (by decide +kernel) ⟨Nat.le_of_ble_eq_true rfl, Nat.le_of_ble_eq_true rfl⟩
  have cw164 := cwV (R := rm_X11_breach) (rm := rm_X11_breachOf) 2 hts gX11_breach_X11_breachOf rfl rfl rfl (by decide +kernel) ⟨Nat.le_of_ble_eq_true rfl, Nat.le_of_ble_eq_true rfl⟩
  refine lv_iload_n hx hb dX11_breach_0 rfl (lv_at hl 1 rfl) ?_
  obtain ⟨q1, hq1, hf⟩ := ob_bind hf
  refine k_Sz (wo := (wd_X11_breach cyI cyJ cyZ a_this a_sets a_papers a_worths a_sign a_hallSign a_chosen a_upper a_lower v_heaps v_seats v_signs v_hallMany v_chosenSet v_paidSeats v_rhoUp v_rhoBy v_breachGroup v_papers v_sets)) (As := [.int x1]) (rest := []) C (c_X11_isLaw l D cyI cyJ cyZ   x1 q1 hq1) cw161 hP hD hS [] [0, 1, 2] [0, 1, 2] rfl rfl rfl (by decide) rfl rfl hl.1 (Nat.le_of_ble_eq_true rfl) dX11_breach_1 ⟨Nat.zero_le _, Nat.zero_le _⟩ (fun H locs zq1 hP hD hS => ?_)
  refine lv_if_ne (tgt := 9) hx hb dX11_breach_4 (by decide) (fun c2 => ?_) (fun c2 => ?_)
  · have hf := ob_neg c2 hf
    refine lv_aload_n hx hb dX11_breach_9 rfl (lv_at hl 0 rfl) ?_
    refine lv_iload_n hx hb dX11_breach_10 rfl (lv_at hl 2 rfl) ?_
    obtain ⟨q3, hq3, hf⟩ := ob_bind hf
    refine k_Vz (wo := (wd_X11_breach cyI cyJ cyZ a_this a_sets a_papers a_worths a_sign a_hallSign a_chosen a_upper a_lower v_heaps v_seats v_signs v_hallMany v_chosenSet v_paidSeats v_rhoUp v_rhoBy v_breachGroup v_papers v_sets)) (As := [.int x2]) (rest := []) C (c_X11_isCommittee l D cyI cyJ cyZ a_this a_sets a_papers a_worths a_sign a_hallSign a_chosen a_upper a_lower v_heaps v_seats v_signs v_hallMany v_chosenSet v_paidSeats v_rhoUp v_rhoBy v_breachGroup x2 q3 hq3) cw64 hP hD hS [0] [1, 2] [2, 0, 1] rfl rfl rfl (by decide) 0 (ci := 10) rfl rfl rfl rfl rfl hl.1 (Nat.le_of_ble_eq_true rfl) dX11_breach_11 ⟨Nat.zero_le _, Nat.zero_le _⟩ (fun H locs zq3 hP hD hS => ?_)
    refine lv_if_eq (tgt := 26) hx hb dX11_breach_14 (by decide) (fun c4 => ?_) (fun c4 => ?_)
    · have hf := ob_pos c4 hf
      refine lv_bipush (v := (-2 : Int32)) hx hb dX11_breach_26 (by decide) ?_
      obtain rfl := Option.some.inj hf
      exact hret _ _ _ _ dX11_breach_28 hP hD hS
    · have hf := ob_neg c4 hf
      refine lv_iload_n hx hb dX11_breach_17 rfl (lv_at hl 3 rfl) ?_
      refine lv_iconst (v := (0 : Int32)) hx hb dX11_breach_18 (by decide) ?_
      refine lv_iconst (v := (2 : Int32)) hx hb dX11_breach_19 (by decide) ?_
      obtain ⟨q5, hq5, hf⟩ := ob_bind hf
      refine k_Sz (wo := (wd_X11_breach cyI cyJ cyZ a_this a_sets a_papers a_worths a_sign a_hallSign a_chosen a_upper a_lower v_heaps v_seats v_signs v_hallMany v_chosenSet v_paidSeats v_rhoUp v_rhoBy v_breachGroup v_papers v_sets)) (As := [.int x3, .int (0 : Int32), .int (2 : Int32)]) (rest := []) C (c_X11_in l D cyI cyJ cyZ   x3 (0 : Int32) (2 : Int32) q5 hq5) cw42 hP hD hS [] [0, 1, 2] [0, 1, 2] rfl rfl rfl (by decide) rfl rfl hl.1 (Nat.le_of_ble_eq_true rfl) dX11_breach_20 ⟨Nat.zero_le _, Nat.zero_le _⟩ (fun H locs zq5 hP hD hS => ?_)
      refine lv_if_ne (tgt := 29) hx hb dX11_breach_23 (by decide) (fun c6 => ?_) (fun c6 => ?_)
      · have hf := ob_neg c6 hf
        refine lv_aload_n hx hb dX11_breach_29 rfl (lv_at hl 0 rfl) ?_
        refine lv_iload_n hx hb dX11_breach_30 rfl (lv_at hl 1 rfl) ?_
        refine lv_iload_n hx hb dX11_breach_31 rfl (lv_at hl 2 rfl) ?_
        obtain ⟨q7, hq7, hf⟩ := ob_bind hf
        refine k_Vi (wo := (wd_X11_breach cyI cyJ cyZ a_this a_sets a_papers a_worths a_sign a_hallSign a_chosen a_upper a_lower v_heaps v_seats v_signs v_hallMany v_chosenSet v_paidSeats v_rhoUp v_rhoBy q7.2 v_papers v_sets)) (As := [.int x1, .int x2]) (rest := []) C (c_X11_breachOf l D cyI cyJ cyZ a_this a_sets a_papers a_worths a_sign a_hallSign a_chosen a_upper a_lower v_heaps v_seats v_signs v_hallMany v_chosenSet v_paidSeats v_rhoUp v_rhoBy v_breachGroup v_papers v_sets x1 x2 q7 hq7) cw164 hP hD hS [0, 1, 2] [] [0, 1, 2] rfl rfl rfl (by decide) 0 (ci := 10) rfl rfl rfl rfl rfl hl.1 (Nat.le_of_ble_eq_true rfl) dX11_breach_32 ⟨Nat.zero_le _, Nat.zero_le _⟩ (fun H locs hP hD hS => ?_)
        refine lv_istore (lv' := [(4, .int q7.1), (0, .ref a_this), (1, .int x1), (2, .int x2), (3, .int x3)]) hx hb dX11_breach_35 hl (by decide) rfl (fun ls hl => ?_)
        refine lv_iload_n hx hb dX11_breach_37 rfl (lv_at hl 4 rfl) ?_
        refine lv_if_ne (tgt := 54) hx hb dX11_breach_38 (by decide) (fun c8 => ?_) (fun c8 => ?_)
        · have hf := ob_neg c8 hf
          refine lv_iload_n hx hb dX11_breach_54 rfl (lv_at hl 4 rfl) ?_
          refine lv_iconst (v := (1 : Int32)) hx hb dX11_breach_55 (by decide) ?_
          refine lv_icmp_ne (tgt := 64) hx hb dX11_breach_56 (by decide) (fun c9 => ?_) (fun c9 => ?_)
          · have hf := ob_neg c9 hf
            refine lv_aload_n hx hb dX11_breach_64 rfl (lv_at hl 1 rfl) ?_
            refine va_get (D := D) (ci := 10) (v := .int q7.2) (C := RX11) (T := TX11) (N := 17) hx hb hts iX11 hown hK hP 0 rfl rfl 16 (by decide) fl158 (fun _ h9 => h9) rfl dX11_breach_65 ?_
            obtain rfl := Option.some.inj hf
            exact hret _ _ _ _ dX11_breach_68 hP hD hS
          · have hf := ob_pos c9 hf
            refine lv_iload hx hb dX11_breach_59 (lv_at hl 0 rfl) ?_
            refine lv_goto (tgt := 68) hx hb dX11_breach_61 (by decide) ?_
            obtain rfl := Option.some.inj hf
            exact hret _ _ _ _ dX11_breach_68 hP hD hS
        · have hf := ob_pos c8 hf
          refine lv_iload hx hb dX11_breach_41 (lv_at hl 0 rfl) ?_
          refine lv_if_ge (tgt := 50) hx hb dX11_breach_43 (by decide) (fun c10 => ?_) (fun c10 => ?_)
          · have hf := ob_pos c10 hf
            refine lv_iconst (v := (1 : Int32)) hx hb dX11_breach_50 (by decide) ?_
            refine lv_goto (tgt := 68) hx hb dX11_breach_51 (by decide) ?_
            obtain rfl := Option.some.inj hf
            exact hret _ _ _ _ dX11_breach_68 hP hD hS
          · have hf := ob_neg c10 hf
            refine lv_iconst (v := (0 : Int32)) hx hb dX11_breach_46 (by decide) ?_
            refine lv_goto (tgt := 68) hx hb dX11_breach_47 (by decide) ?_
            obtain rfl := Option.some.inj hf
            exact hret _ _ _ _ dX11_breach_68 hP hD hS
      · have hf := ob_pos c6 hf
        refine lv_bipush (v := (-2 : Int32)) hx hb dX11_breach_26 (by decide) ?_
        obtain rfl := Option.some.inj hf
        exact hret _ _ _ _ dX11_breach_28 hP hD hS
  · have hf := ob_pos c2 hf
    refine lv_iconst (v := (-1 : Int32)) hx hb dX11_breach_7 (by decide) ?_
    obtain rfl := Option.some.inj hf
    exact hret _ _ _ _ dX11_breach_8 hP hD hS
abbrev rm_X11_isKept : Room := { frames := 3, cells := 0, slots := 0, locals := 73 }
abbrev wd_X11_isKept (cyI cyJ cyZ : ClassId) (a_this a_sets a_papers a_worths a_sign a_hallSign a_chosen a_upper a_lower : Nat) (v_heaps : Int32) (v_seats : Int32) (v_signs : Int32) (v_hallMany : Int32) (v_chosenSet : Int32) (v_paidSeats : Int32) (v_rhoUp : Int64) (v_rhoBy : Int64) (v_breachGroup : Int32) (v_hallSign : Nat → Int32) (v_papers : Nat → Int32) (v_sets : Nat → Int32) : va_W := [(a_this, .inr (10, [.int v_heaps, .ref a_sets, .ref a_papers, .int v_seats, .ref a_worths, .int v_signs, .ref a_sign, .int v_hallMany, .ref a_hallSign, .ref a_chosen, .int v_chosenSet, .int v_paidSeats, .ref a_upper, .ref a_lower, .long v_rhoUp, .long v_rhoBy, .int v_breachGroup])), (a_hallSign, .inl (cyI, 40, .inl v_hallSign)), (a_papers, .inl (cyI, 7, .inl v_papers)), (a_sets, .inl (cyI, 7, .inl v_sets))]
def f_X11_isKept (x1 : Int32) (x2 : Int32) (v_heaps : Int32) (v_seats : Int32) (v_hallMany : Int32) (v_breachGroup : Int32) (v_hallSign : Nat → Int32) (v_papers : Nat → Int32) (v_sets : Nat → Int32) : Option (Int32 × Int32) := (f_X11_isCommittee x2 v_seats).bind (fun q1 => (if q1 = 0 then some ((0 : Int32), v_breachGroup) else (f_X11_barOf x2 v_hallMany v_hallSign).bind (fun q3 => (if 0 ≤ q3 then some ((0 : Int32), v_breachGroup) else (f_X11_breachOf x1 x2 v_heaps v_seats v_breachGroup v_papers v_sets).bind (fun q5 => (if 0 ≤ q5.1 then some ((0 : Int32), q5.2) else some ((1 : Int32), q5.2)))))))
set_option maxHeartbeats 4000000 in
set_option maxRecDepth 100000 in
theorem c_X11_isKept (l : Launch) (D : va_G) (cyI cyJ cyZ : ClassId) (a_this a_sets a_papers a_worths a_sign a_hallSign a_chosen a_upper a_lower : Nat) (v_heaps : Int32) (v_seats : Int32) (v_signs : Int32) (v_hallMany : Int32) (v_chosenSet : Int32) (v_paidSeats : Int32) (v_rhoUp : Int64) (v_rhoBy : Int64) (v_breachGroup : Int32) (v_hallSign : Nat → Int32) (v_papers : Nat → Int32) (v_sets : Nat → Int32) (x1 : Int32) (x2 : Int32) (q : Int32 × Int32) (hf : f_X11_isKept x1 x2 v_heaps v_seats v_hallMany v_breachGroup v_hallSign v_papers v_sets = some q) : kMz l yX11_isKept wsX11_isKept rm_X11_isKept D (kTy cyI cyJ cyZ) [.ref a_this, .int x1, .int x2] (wd_X11_isKept cyI cyJ cyZ a_this a_sets a_papers a_worths a_sign a_hallSign a_chosen a_upper a_lower v_heaps v_seats v_signs v_hallMany v_chosenSet v_paidSeats v_rhoUp v_rhoBy v_breachGroup v_hallSign v_papers v_sets) (wd_X11_isKept cyI cyJ cyZ a_this a_sets a_papers a_worths a_sign a_hallSign a_chosen a_upper a_lower v_heaps v_seats v_signs v_hallMany v_chosenSet v_paidSeats v_rhoUp v_rhoBy q.2 v_hallSign v_papers v_sets) q.1 := by
  refine kMz_of (cc := cX11_isKept) (nL := 3) (own := RX11) (by decide) rfl rfl (Nat.le_of_ble_eq_true rfl) ?_
  intro p e s m below meth c A Q ls C hret hP hD hS hl
  have hl : lv_has ls 3 [(0, .ref a_this), (1, .int x1), (2, .int x2)] := hl
  unfold f_X11_isKept at hf
  obtain ⟨hx, hb, hml, hown, hts, hK, hA⟩ := id C
  have cw64 := cwV (R := rm_X11_isKept) (rm := rm_X11_isCommittee) 1 hts gX11_isKept_X11_isCommittee rfl rfl rfl (by decide +kernel) ⟨Nat.le_of_ble_eq_true rfl, Nat.le_of_ble_eq_true rfl⟩
  have cw67 := cwV (R := rm_X11_isKept) (rm := rm_X11_barOf) 1 hts gX11_isKept_X11_barOf rfl rfl rfl (by decide +kernel) ⟨Nat.le_of_ble_eq_true rfl, Nat.le_of_ble_eq_true rfl⟩
  have cw164 := cwV (R := rm_X11_isKept) (rm := rm_X11_breachOf) 2 hts gX11_isKept_X11_breachOf rfl rfl rfl (by decide +kernel) ⟨Nat.le_of_ble_eq_true rfl, Nat.le_of_ble_eq_true rfl⟩
  refine lv_aload_n hx hb dX11_isKept_0 rfl (lv_at hl 0 rfl) ?_
  refine lv_iload_n hx hb dX11_isKept_1 rfl (lv_at hl 2 rfl) ?_
  obtain ⟨q1, hq1, hf⟩ := ob_bind hf
  refine k_Vz (wo := (wd_X11_isKept cyI cyJ cyZ a_this a_sets a_papers a_worths a_sign a_hallSign a_chosen a_upper a_lower v_heaps v_seats v_signs v_hallMany v_chosenSet v_paidSeats v_rhoUp v_rhoBy v_breachGroup v_hallSign v_papers v_sets)) (As := [.int x2]) (rest := []) C (c_X11_isCommittee l D cyI cyJ cyZ a_this a_sets a_papers a_worths a_sign a_hallSign a_chosen a_upper a_lower v_heaps v_seats v_signs v_hallMany v_chosenSet v_paidSeats v_rhoUp v_rhoBy v_breachGroup x2 q1 hq1) cw64 hP hD hS [0] [1, 2, 3] [3, 0, 1, 2] rfl rfl rfl (by decide) 0 (ci := 10) rfl rfl rfl rfl rfl hl.1 (Nat.le_of_ble_eq_true rfl) dX11_isKept_2 ⟨Nat.zero_le _, Nat.zero_le _⟩ (fun H locs zq1 hP hD hS => ?_)
  refine lv_if_eq (tgt := 29) hx hb dX11_isKept_5 (by decide) (fun c2 => ?_) (fun c2 => ?_)
  · have hf := ob_pos c2 hf
    refine lv_iconst (v := (0 : Int32)) hx hb dX11_isKept_29 (by decide) ?_
    obtain rfl := Option.some.inj hf
    exact hret _ _ _ _ narrow_b0 dX11_isKept_30 hP hD hS
  · have hf := ob_neg c2 hf
    refine lv_aload_n hx hb dX11_isKept_8 rfl (lv_at hl 0 rfl) ?_
    refine lv_iload_n hx hb dX11_isKept_9 rfl (lv_at hl 2 rfl) ?_
    obtain ⟨q3, hq3, hf⟩ := ob_bind hf
    refine k_Vi (wo := (wd_X11_isKept cyI cyJ cyZ a_this a_sets a_papers a_worths a_sign a_hallSign a_chosen a_upper a_lower v_heaps v_seats v_signs v_hallMany v_chosenSet v_paidSeats v_rhoUp v_rhoBy v_breachGroup v_hallSign v_papers v_sets)) (As := [.int x2]) (rest := []) C (c_X11_barOf l D cyI cyJ cyZ a_this a_sets a_papers a_worths a_sign a_hallSign a_chosen a_upper a_lower v_heaps v_seats v_signs v_hallMany v_chosenSet v_paidSeats v_rhoUp v_rhoBy v_breachGroup v_hallSign x2 q3 hq3) cw67 hP hD hS [0, 1] [2, 3] [2, 3, 0, 1] rfl rfl rfl (by decide) 0 (ci := 10) rfl rfl rfl rfl rfl hl.1 (Nat.le_of_ble_eq_true rfl) dX11_isKept_10 ⟨Nat.zero_le _, Nat.zero_le _⟩ (fun H locs hP hD hS => ?_)
    refine lv_if_ge (tgt := 29) hx hb dX11_isKept_13 (by decide) (fun c4 => ?_) (fun c4 => ?_)
    · have hf := ob_pos c4 hf
      refine lv_iconst (v := (0 : Int32)) hx hb dX11_isKept_29 (by decide) ?_
      obtain rfl := Option.some.inj hf
      exact hret _ _ _ _ narrow_b0 dX11_isKept_30 hP hD hS
    · have hf := ob_neg c4 hf
      refine lv_aload_n hx hb dX11_isKept_16 rfl (lv_at hl 0 rfl) ?_
      refine lv_iload_n hx hb dX11_isKept_17 rfl (lv_at hl 1 rfl) ?_
      refine lv_iload_n hx hb dX11_isKept_18 rfl (lv_at hl 2 rfl) ?_
      obtain ⟨q5, hq5, hf⟩ := ob_bind hf
      refine k_Vi (wo := (wd_X11_isKept cyI cyJ cyZ a_this a_sets a_papers a_worths a_sign a_hallSign a_chosen a_upper a_lower v_heaps v_seats v_signs v_hallMany v_chosenSet v_paidSeats v_rhoUp v_rhoBy q5.2 v_hallSign v_papers v_sets)) (As := [.int x1, .int x2]) (rest := []) C (c_X11_breachOf l D cyI cyJ cyZ a_this a_sets a_papers a_worths a_sign a_hallSign a_chosen a_upper a_lower v_heaps v_seats v_signs v_hallMany v_chosenSet v_paidSeats v_rhoUp v_rhoBy v_breachGroup v_papers v_sets x1 x2 q5 hq5) cw164 hP hD hS [0, 2, 3] [1] [1, 0, 2, 3] rfl rfl rfl (by decide) 0 (ci := 10) rfl rfl rfl rfl rfl hl.1 (Nat.le_of_ble_eq_true rfl) dX11_isKept_19 ⟨Nat.zero_le _, Nat.zero_le _⟩ (fun H locs hP hD hS => ?_)
      refine lv_if_ge (tgt := 29) hx hb dX11_isKept_22 (by decide) (fun c6 => ?_) (fun c6 => ?_)
      · have hf := ob_pos c6 hf
        refine lv_iconst (v := (0 : Int32)) hx hb dX11_isKept_29 (by decide) ?_
        obtain rfl := Option.some.inj hf
        exact hret _ _ _ _ narrow_b0 dX11_isKept_30 hP hD hS
      · have hf := ob_neg c6 hf
        refine lv_iconst (v := (1 : Int32)) hx hb dX11_isKept_25 (by decide) ?_
        refine lv_goto (tgt := 30) hx hb dX11_isKept_26 (by decide) ?_
        obtain rfl := Option.some.inj hf
        exact hret _ _ _ _ narrow_b1 dX11_isKept_30 hP hD hS
abbrev rm_X11_kept : Room := { frames := 4, cells := 0, slots := 0, locals := 95 }
abbrev wd_X11_kept (cyI cyJ cyZ : ClassId) (a_this a_sets a_papers a_worths a_sign a_hallSign a_chosen a_upper a_lower : Nat) (v_heaps : Int32) (v_seats : Int32) (v_signs : Int32) (v_hallMany : Int32) (v_chosenSet : Int32) (v_paidSeats : Int32) (v_rhoUp : Int64) (v_rhoBy : Int64) (v_breachGroup : Int32) (v_hallSign : Nat → Int32) (v_papers : Nat → Int32) (v_sets : Nat → Int32) : va_W := [(a_this, .inr (10, [.int v_heaps, .ref a_sets, .ref a_papers, .int v_seats, .ref a_worths, .int v_signs, .ref a_sign, .int v_hallMany, .ref a_hallSign, .ref a_chosen, .int v_chosenSet, .int v_paidSeats, .ref a_upper, .ref a_lower, .long v_rhoUp, .long v_rhoBy, .int v_breachGroup])), (a_hallSign, .inl (cyI, 40, .inl v_hallSign)), (a_papers, .inl (cyI, 7, .inl v_papers)), (a_sets, .inl (cyI, 7, .inl v_sets))]
def lp_X11_kept_14 (y1 : Int32) (y2 : Int32) (v_heaps : Int32) (v_seats : Int32) (v_hallMany : Int32) (v_hallSign : Nat → Int32) (v_papers : Nat → Int32) (v_sets : Nat → Int32) (k : (Int32 × Int32) → Option (Int32 × Int32)) : Nat → Int32 → Int32 → Int32 → Option (Int32 × Int32)
  | 0, _, _, _ => none
  | n + 1, y3, y4, v_breachGroup => (if (256 : Int32) ≤ y4 then k (y3, v_breachGroup) else (f_X11_isKept y1 y4 v_heaps v_seats v_hallMany v_breachGroup v_hallSign v_papers v_sets).bind (fun q4 => (if q4.1 = 0 then lp_X11_kept_14 y1 y2 v_heaps v_seats v_hallMany v_hallSign v_papers v_sets k n y3 (y4 + (1 : Int32)) q4.2 else (if y3 = y2 then some (y4, q4.2) else lp_X11_kept_14 y1 y2 v_heaps v_seats v_hallMany v_hallSign v_papers v_sets k n (y3 + (1 : Int32)) (y4 + (1 : Int32)) q4.2))))
def f_X11_kept (x1 : Int32) (x2 : Int32) (v_heaps : Int32) (v_seats : Int32) (v_hallMany : Int32) (v_breachGroup : Int32) (v_hallSign : Nat → Int32) (v_papers : Nat → Int32) (v_sets : Nat → Int32) : Option (Int32 × Int32) := (f_X11_isLaw x1).bind (fun q1 => (if q1 = 0 then some ((-1 : Int32), v_breachGroup) else lp_X11_kept_14 x1 x2 v_heaps v_seats v_hallMany v_hallSign v_papers v_sets (fun q7 => (if x2 = (-1 : Int32) then some (q7.1, q7.2) else some ((-6 : Int32), q7.2))) FU (0 : Int32) (0 : Int32) v_breachGroup))
set_option maxHeartbeats 4000000 in
set_option maxRecDepth 100000 in
theorem wl_X11_kept_14 {p : Program} {l : Launch} {e : Env} {s : State} {m : MethodId} {args : Array Value} {below : List Frame} {meth : Method} {c : Code} {A : Nat → Prop} {Q : State → Prop} {D : va_G} {cyI cyJ cyZ : ClassId} {a_this a_sets a_papers a_worths a_sign a_hallSign a_chosen a_upper a_lower : Nat} {y1 : Int32} {y2 : Int32} {v_heaps : Int32} {v_seats : Int32} {v_signs : Int32} {v_hallMany : Int32} {v_chosenSet : Int32} {v_paidSeats : Int32} {v_rhoUp : Int64} {v_rhoBy : Int64} {v_hallSign : Nat → Int32} {v_papers : Nat → Int32} {v_sets : Nat → Int32} {k : (Int32 × Int32) → Option (Int32 × Int32)} {q : Int32 × Int32} (C : kC p s m args c cX11_kept 5 RX11 wsX11_kept D (kTy cyI cyJ cyZ) A) (hret : ∀ (pc : Nat) (H : Heap) (locs : List Loc) (ls : Array Slot), decode cX11_kept pc = .ok (.ireturn, 1) → va_P D vwCl (wd_X11_kept cyI cyJ cyZ a_this a_sets a_papers a_worths a_sign a_hallSign a_chosen a_upper a_lower v_heaps v_seats v_signs v_hallMany v_chosenSet v_paidSeats v_rhoUp v_rhoBy q.2 v_hallSign v_papers v_sets) H → va_D A (wd_X11_kept cyI cyJ cyZ a_this a_sets a_papers a_worths a_sign a_hallSign a_chosen a_upper a_lower v_heaps v_seats v_signs v_hallMany v_chosenSet v_paidSeats v_rhoUp v_rhoBy q.2 v_hallSign v_papers v_sets) → va_S A s.heap H locs → W p l e rm_X11_kept s m args below meth c H locs 0 0 Q (F0 m pc ls [.int q.1])) (K : (∀ (x : Int32 × Int32) (H : Heap) (locs : List Loc) (ls : Array Slot), k x = some q → va_P D vwCl (wd_X11_kept cyI cyJ cyZ a_this a_sets a_papers a_worths a_sign a_hallSign a_chosen a_upper a_lower v_heaps v_seats v_signs v_hallMany v_chosenSet v_paidSeats v_rhoUp v_rhoBy x.2 v_hallSign v_papers v_sets) H → va_D A (wd_X11_kept cyI cyJ cyZ a_this a_sets a_papers a_worths a_sign a_hallSign a_chosen a_upper a_lower v_heaps v_seats v_signs v_hallMany v_chosenSet v_paidSeats v_rhoUp v_rhoBy x.2 v_hallSign v_papers v_sets) → va_S A s.heap H locs → lv_has ls 5 [(2, .int y2), (3, .int x.1)] → W p l e rm_X11_kept s m args below meth c H locs 0 0 Q (F0 m 49 ls []))) :
    ∀ (n : Nat) (y3 : Int32) (y4 : Int32) (v_breachGroup : Int32) (H : Heap) (locs : List Loc) (ls : Array Slot), lp_X11_kept_14 y1 y2 v_heaps v_seats v_hallMany v_hallSign v_papers v_sets k n y3 y4 v_breachGroup = some q → va_P D vwCl (wd_X11_kept cyI cyJ cyZ a_this a_sets a_papers a_worths a_sign a_hallSign a_chosen a_upper a_lower v_heaps v_seats v_signs v_hallMany v_chosenSet v_paidSeats v_rhoUp v_rhoBy v_breachGroup v_hallSign v_papers v_sets) H → va_D A (wd_X11_kept cyI cyJ cyZ a_this a_sets a_papers a_worths a_sign a_hallSign a_chosen a_upper a_lower v_heaps v_seats v_signs v_hallMany v_chosenSet v_paidSeats v_rhoUp v_rhoBy v_breachGroup v_hallSign v_papers v_sets) → va_S A s.heap H locs → lv_has ls 5 [(0, .ref a_this), (1, .int y1), (2, .int y2), (3, .int y3), (4, .int y4)] → W p l e rm_X11_kept s m args below meth c H locs 0 0 Q (F0 m 14 ls []) := by
  obtain ⟨hx, hb, hml, hown, hts, hK, hA⟩ := id C
  have cw167 := cwV (R := rm_X11_kept) (rm := rm_X11_isKept) 2 hts gX11_kept_X11_isKept rfl rfl rfl (by decide +kernel) ⟨Nat.le_of_ble_eq_true rfl, Nat.le_of_ble_eq_true rfl⟩
  intro n
  induction n with
  | zero =>
    intro y3 y4 v_breachGroup H locs ls hf hP hD hS hl
    rw [lp_X11_kept_14] at hf
    cases hf
  | succ n ih =>
    intro y3 y4 v_breachGroup H locs ls hf hP hD hS hl
    rw [lp_X11_kept_14] at hf
    refine lv_iload hx hb dX11_kept_14 (lv_at hl 4 rfl) ?_
    refine lv_sipush (v := (256 : Int32)) hx hb dX11_kept_16 (by decide) ?_
    refine lv_icmp_ge (tgt := 49) hx hb dX11_kept_19 (by decide) (fun c3 => ?_) (fun c3 => ?_)
    · have hf := ob_pos c3 hf
      exact K (y3, v_breachGroup) _ _ _ hf hP hD hS (lv_sub hl [2, 3] rfl)
    · have hf := ob_neg c3 hf
      refine lv_aload_n hx hb dX11_kept_22 rfl (lv_at hl 0 rfl) ?_
      refine lv_iload_n hx hb dX11_kept_23 rfl (lv_at hl 1 rfl) ?_
      refine lv_iload hx hb dX11_kept_24 (lv_at hl 4 rfl) ?_
      obtain ⟨q4, hq4, hf⟩ := ob_bind hf
      refine k_Vz (wo := (wd_X11_kept cyI cyJ cyZ a_this a_sets a_papers a_worths a_sign a_hallSign a_chosen a_upper a_lower v_heaps v_seats v_signs v_hallMany v_chosenSet v_paidSeats v_rhoUp v_rhoBy q4.2 v_hallSign v_papers v_sets)) (As := [.int y1, .int y4]) (rest := []) C (c_X11_isKept l D cyI cyJ cyZ a_this a_sets a_papers a_worths a_sign a_hallSign a_chosen a_upper a_lower v_heaps v_seats v_signs v_hallMany v_chosenSet v_paidSeats v_rhoUp v_rhoBy v_breachGroup v_hallSign v_papers v_sets y1 y4 q4 hq4) cw167 hP hD hS [0, 1, 2, 3] [] [0, 1, 2, 3] rfl rfl rfl (by decide) 0 (ci := 10) rfl rfl rfl rfl rfl hl.1 (Nat.le_of_ble_eq_true rfl) dX11_kept_26 ⟨Nat.zero_le _, Nat.zero_le _⟩ (fun H locs zq4 hP hD hS => ?_)
      refine lv_if_eq (tgt := 43) hx hb dX11_kept_29 (by decide) (fun c5 => ?_) (fun c5 => ?_)
      · have hf := ob_pos c5 hf
        refine lv_iinc (v := (y4 + (1 : Int32))) (lv' := [(4, .int (y4 + (1 : Int32))), (0, .ref a_this), (1, .int y1), (2, .int y2), (3, .int y3)]) hx hb dX11_kept_43 hl (k := 4) rfl rfl (by decide) rfl (fun ls hl => ?_)
        refine lv_goto (tgt := 14) hx hb dX11_kept_46 (by decide) ?_
        exact ih y3 (y4 + (1 : Int32)) q4.2 _ _ _ hf hP hD hS (lv_sub hl [1, 2, 3, 4, 0] rfl)
      · have hf := ob_neg c5 hf
        refine lv_iload_n hx hb dX11_kept_32 rfl (lv_at hl 3 rfl) ?_
        refine lv_iload_n hx hb dX11_kept_33 rfl (lv_at hl 2 rfl) ?_
        refine lv_icmp_ne (tgt := 40) hx hb dX11_kept_34 (by decide) (fun c6 => ?_) (fun c6 => ?_)
        · have hf := ob_neg c6 hf
          refine lv_iinc (v := (y3 + (1 : Int32))) (lv' := [(3, .int (y3 + (1 : Int32))), (0, .ref a_this), (1, .int y1), (2, .int y2), (4, .int y4)]) hx hb dX11_kept_40 hl (k := 3) rfl rfl (by decide) rfl (fun ls hl => ?_)
          refine lv_iinc (v := (y4 + (1 : Int32))) (lv' := [(4, .int (y4 + (1 : Int32))), (3, .int (y3 + (1 : Int32))), (0, .ref a_this), (1, .int y1), (2, .int y2)]) hx hb dX11_kept_43 hl (k := 4) rfl rfl (by decide) rfl (fun ls hl => ?_)
          refine lv_goto (tgt := 14) hx hb dX11_kept_46 (by decide) ?_
          exact ih (y3 + (1 : Int32)) (y4 + (1 : Int32)) q4.2 _ _ _ hf hP hD hS (lv_sub hl [2, 3, 4, 1, 0] rfl)
        · have hf := ob_pos c6 hf
          refine lv_iload hx hb dX11_kept_37 (lv_at hl 4 rfl) ?_
          obtain rfl := Option.some.inj hf
          exact hret _ _ _ _ dX11_kept_39 hP hD hS
set_option maxHeartbeats 4000000 in
set_option maxRecDepth 100000 in
theorem c_X11_kept (l : Launch) (D : va_G) (cyI cyJ cyZ : ClassId) (a_this a_sets a_papers a_worths a_sign a_hallSign a_chosen a_upper a_lower : Nat) (v_heaps : Int32) (v_seats : Int32) (v_signs : Int32) (v_hallMany : Int32) (v_chosenSet : Int32) (v_paidSeats : Int32) (v_rhoUp : Int64) (v_rhoBy : Int64) (v_breachGroup : Int32) (v_hallSign : Nat → Int32) (v_papers : Nat → Int32) (v_sets : Nat → Int32) (x1 : Int32) (x2 : Int32) (q : Int32 × Int32) (hf : f_X11_kept x1 x2 v_heaps v_seats v_hallMany v_breachGroup v_hallSign v_papers v_sets = some q) : kMi l yX11_kept wsX11_kept rm_X11_kept D (kTy cyI cyJ cyZ) [.ref a_this, .int x1, .int x2] (wd_X11_kept cyI cyJ cyZ a_this a_sets a_papers a_worths a_sign a_hallSign a_chosen a_upper a_lower v_heaps v_seats v_signs v_hallMany v_chosenSet v_paidSeats v_rhoUp v_rhoBy v_breachGroup v_hallSign v_papers v_sets) (wd_X11_kept cyI cyJ cyZ a_this a_sets a_papers a_worths a_sign a_hallSign a_chosen a_upper a_lower v_heaps v_seats v_signs v_hallMany v_chosenSet v_paidSeats v_rhoUp v_rhoBy q.2 v_hallSign v_papers v_sets) q.1 := by
  refine kMi_of (cc := cX11_kept) (nL := 5) (own := RX11) (by decide) rfl rfl (Nat.le_of_ble_eq_true rfl) ?_
  intro p e s m below meth c A Q ls C hret hP hD hS hl
  have hl : lv_has ls 5 [(0, .ref a_this), (1, .int x1), (2, .int x2)] := hl
  unfold f_X11_kept at hf
  obtain ⟨hx, hb, hml, hown, hts, hK, hA⟩ := id C
  have cw161 := va_cwS (R := rm_X11_kept) (rm := rm_X11_isLaw) 1 hts gX11_kept_X11_isLaw rfl rfl rfl (by decide +kernel) ⟨Nat.le_of_ble_eq_true rfl, Nat.le_of_ble_eq_true rfl⟩
  refine lv_iload_n hx hb dX11_kept_0 rfl (lv_at hl 1 rfl) ?_
  obtain ⟨q1, hq1, hf⟩ := ob_bind hf
  refine k_Sz (wo := (wd_X11_kept cyI cyJ cyZ a_this a_sets a_papers a_worths a_sign a_hallSign a_chosen a_upper a_lower v_heaps v_seats v_signs v_hallMany v_chosenSet v_paidSeats v_rhoUp v_rhoBy v_breachGroup v_hallSign v_papers v_sets)) (As := [.int x1]) (rest := []) C (c_X11_isLaw l D cyI cyJ cyZ   x1 q1 hq1) cw161 hP hD hS [] [0, 1, 2, 3] [0, 1, 2, 3] rfl rfl rfl (by decide) rfl rfl hl.1 (Nat.le_of_ble_eq_true rfl) dX11_kept_1 ⟨Nat.zero_le _, Nat.zero_le _⟩ (fun H locs zq1 hP hD hS => ?_)
  refine lv_if_ne (tgt := 9) hx hb dX11_kept_4 (by decide) (fun c2 => ?_) (fun c2 => ?_)
  · have hf := ob_neg c2 hf
    refine lv_iconst (v := (0 : Int32)) hx hb dX11_kept_9 (by decide) ?_
    refine lv_istore_n (lv' := [(3, .int (0 : Int32)), (0, .ref a_this), (1, .int x1), (2, .int x2)]) hx hb dX11_kept_10 rfl hl (by decide) rfl (fun ls hl => ?_)
    refine lv_iconst (v := (0 : Int32)) hx hb dX11_kept_11 (by decide) ?_
    refine lv_istore (lv' := [(4, .int (0 : Int32)), (3, .int (0 : Int32)), (0, .ref a_this), (1, .int x1), (2, .int x2)]) hx hb dX11_kept_12 hl (by decide) rfl (fun ls hl => ?_)
    refine wl_X11_kept_14 C hret (fun q7 H locs ls hf hP hD hS hl => ?_) FU (0 : Int32) (0 : Int32) v_breachGroup _ _ _ hf hP hD hS (lv_sub hl [2, 3, 4, 1, 0] rfl)
    refine lv_iload_n hx hb dX11_kept_49 rfl (lv_at hl 0 rfl) ?_
    refine lv_iconst (v := (-1 : Int32)) hx hb dX11_kept_50 (by decide) ?_
    refine lv_icmp_ne (tgt := 58) hx hb dX11_kept_51 (by decide) (fun c8 => ?_) (fun c8 => ?_)
    · have hf := ob_neg c8 hf
      refine lv_bipush (v := (-6 : Int32)) hx hb dX11_kept_58 (by decide) ?_
      obtain rfl := Option.some.inj hf
      exact hret _ _ _ _ dX11_kept_60 hP hD hS
    · have hf := ob_pos c8 hf
      refine lv_iload_n hx hb dX11_kept_54 rfl (lv_at hl 1 rfl) ?_
      refine lv_goto (tgt := 60) hx hb dX11_kept_55 (by decide) ?_
      obtain rfl := Option.some.inj hf
      exact hret _ _ _ _ dX11_kept_60 hP hD hS
  · have hf := ob_pos c2 hf
    refine lv_iconst (v := (-1 : Int32)) hx hb dX11_kept_7 (by decide) ?_
    obtain rfl := Option.some.inj hf
    exact hret _ _ _ _ dX11_kept_8 hP hD hS
abbrev rm_X11_least : Room := { frames := 2, cells := 0, slots := 0, locals := 49 }
abbrev wd_X11_least (cyI cyJ cyZ : ClassId) (a_this a_sets a_papers a_worths a_sign a_hallSign a_chosen a_upper a_lower : Nat) (v_heaps : Int32) (v_seats : Int32) (v_signs : Int32) (v_hallMany : Int32) (v_chosenSet : Int32) (v_paidSeats : Int32) (v_rhoUp : Int64) (v_rhoBy : Int64) (v_breachGroup : Int32) (v_hallSign : Nat → Int32) (v_papers : Nat → Int32) (v_sets : Nat → Int32) : va_W := [(a_this, .inr (10, [.int v_heaps, .ref a_sets, .ref a_papers, .int v_seats, .ref a_worths, .int v_signs, .ref a_sign, .int v_hallMany, .ref a_hallSign, .ref a_chosen, .int v_chosenSet, .int v_paidSeats, .ref a_upper, .ref a_lower, .long v_rhoUp, .long v_rhoBy, .int v_breachGroup])), (a_hallSign, .inl (cyI, 40, .inl v_hallSign)), (a_papers, .inl (cyI, 7, .inl v_papers)), (a_sets, .inl (cyI, 7, .inl v_sets))]
def lp_X11_least_17 (y1 : Int32) (v_heaps : Int32) (v_seats : Int32) (v_hallMany : Int32) (v_hallSign : Nat → Int32) (v_papers : Nat → Int32) (v_sets : Nat → Int32) : Nat → Int32 → Int32 → Option (Int32)
  | 0, _, _ => none
  | n + 1, y2, y3 => (if (256 : Int32) ≤ y3 then some y2 else (f_X11_isCommittee y3 v_seats).bind (fun q4 => (if q4 = 0 then lp_X11_least_17 y1 v_heaps v_seats v_hallMany v_hallSign v_papers v_sets n y2 (y3 + (1 : Int32)) else (f_X11_barOf y3 v_hallMany v_hallSign).bind (fun q7 => (if 0 ≤ q7 then lp_X11_least_17 y1 v_heaps v_seats v_hallMany v_hallSign v_papers v_sets n y2 (y3 + (1 : Int32)) else (if y2 < 0 then lp_X11_least_17 y1 v_heaps v_seats v_hallMany v_hallSign v_papers v_sets n y3 (y3 + (1 : Int32)) else (f_X11_wronged y3 v_heaps v_papers v_sets).bind (fun q12 => (f_X11_wronged y2 v_heaps v_papers v_sets).bind (fun q13 => (if q13 ≤ q12 then lp_X11_least_17 y1 v_heaps v_seats v_hallMany v_hallSign v_papers v_sets n y2 (y3 + (1 : Int32)) else lp_X11_least_17 y1 v_heaps v_seats v_hallMany v_hallSign v_papers v_sets n y3 (y3 + (1 : Int32)))))))))))
def f_X11_least (x1 : Int32) (v_heaps : Int32) (v_seats : Int32) (v_hallMany : Int32) (v_hallSign : Nat → Int32) (v_papers : Nat → Int32) (v_sets : Nat → Int32) : Option (Int32) := (f_X11_in x1 (0 : Int32) (1 : Int32)).bind (fun q1 => (if q1 = 0 then some (-2 : Int32) else (lp_X11_least_17 x1 v_heaps v_seats v_hallMany v_hallSign v_papers v_sets FU (-6 : Int32) (0 : Int32)).bind (fun q15 => (if q15 < 0 then some q15 else (if x1 = 0 then some q15 else (f_X11_wronged q15 v_heaps v_papers v_sets).bind (fun q18 => some q18))))))
set_option maxHeartbeats 4000000 in
set_option maxRecDepth 100000 in
theorem wl_X11_least_17 {p : Program} {l : Launch} {e : Env} {s : State} {m : MethodId} {args : Array Value} {below : List Frame} {meth : Method} {c : Code} {A : Nat → Prop} {Q : State → Prop} {D : va_G} {cyI cyJ cyZ : ClassId} {a_this a_sets a_papers a_worths a_sign a_hallSign a_chosen a_upper a_lower : Nat} {y1 : Int32} {v_heaps : Int32} {v_seats : Int32} {v_signs : Int32} {v_hallMany : Int32} {v_chosenSet : Int32} {v_paidSeats : Int32} {v_rhoUp : Int64} {v_rhoBy : Int64} {v_breachGroup : Int32} {v_hallSign : Nat → Int32} {v_papers : Nat → Int32} {v_sets : Nat → Int32} (C : kC p s m args c cX11_least 5 RX11 wsX11_least D (kTy cyI cyJ cyZ) A) :
    ∀ (n : Nat) (y2 : Int32) (y3 : Int32) (q : Int32) (H : Heap) (locs : List Loc) (ls : Array Slot), lp_X11_least_17 y1 v_heaps v_seats v_hallMany v_hallSign v_papers v_sets n y2 y3 = some q → (∀ (H : Heap) (locs : List Loc) (ls : Array Slot), va_P D vwCl (wd_X11_least cyI cyJ cyZ a_this a_sets a_papers a_worths a_sign a_hallSign a_chosen a_upper a_lower v_heaps v_seats v_signs v_hallMany v_chosenSet v_paidSeats v_rhoUp v_rhoBy v_breachGroup v_hallSign v_papers v_sets) H → va_D A (wd_X11_least cyI cyJ cyZ a_this a_sets a_papers a_worths a_sign a_hallSign a_chosen a_upper a_lower v_heaps v_seats v_signs v_hallMany v_chosenSet v_paidSeats v_rhoUp v_rhoBy v_breachGroup v_hallSign v_papers v_sets) → va_S A s.heap H locs → lv_has ls 5 [(0, .ref a_this), (1, .int y1), (2, .int q)] → W p l e rm_X11_least s m args below meth c H locs 0 0 Q (F0 m 81 ls [])) → va_P D vwCl (wd_X11_least cyI cyJ cyZ a_this a_sets a_papers a_worths a_sign a_hallSign a_chosen a_upper a_lower v_heaps v_seats v_signs v_hallMany v_chosenSet v_paidSeats v_rhoUp v_rhoBy v_breachGroup v_hallSign v_papers v_sets) H → va_D A (wd_X11_least cyI cyJ cyZ a_this a_sets a_papers a_worths a_sign a_hallSign a_chosen a_upper a_lower v_heaps v_seats v_signs v_hallMany v_chosenSet v_paidSeats v_rhoUp v_rhoBy v_breachGroup v_hallSign v_papers v_sets) → va_S A s.heap H locs → lv_has ls 5 [(0, .ref a_this), (1, .int y1), (2, .int y2), (3, .int y3)] → W p l e rm_X11_least s m args below meth c H locs 0 0 Q (F0 m 17 ls []) := by
  obtain ⟨hx, hb, hml, hown, hts, hK, hA⟩ := id C
  have cw64 := cwV (R := rm_X11_least) (rm := rm_X11_isCommittee) 1 hts gX11_least_X11_isCommittee rfl rfl rfl (by decide +kernel) ⟨Nat.le_of_ble_eq_true rfl, Nat.le_of_ble_eq_true rfl⟩
  have cw67 := cwV (R := rm_X11_least) (rm := rm_X11_barOf) 1 hts gX11_least_X11_barOf rfl rfl rfl (by decide +kernel) ⟨Nat.le_of_ble_eq_true rfl, Nat.le_of_ble_eq_true rfl⟩
  have cw73 := cwV (R := rm_X11_least) (rm := rm_X11_wronged) 1 hts gX11_least_X11_wronged rfl rfl rfl (by decide +kernel) ⟨Nat.le_of_ble_eq_true rfl, Nat.le_of_ble_eq_true rfl⟩
  intro n
  induction n with
  | zero =>
    intro y2 y3 q H locs ls hf K hP hD hS hl
    rw [lp_X11_least_17] at hf
    cases hf
  | succ n ih =>
    intro y2 y3 q H locs ls hf K hP hD hS hl
    rw [lp_X11_least_17] at hf
    refine lv_iload_n hx hb dX11_least_17 rfl (lv_at hl 3 rfl) ?_
    refine lv_sipush (v := (256 : Int32)) hx hb dX11_least_18 (by decide) ?_
    refine lv_icmp_ge (tgt := 81) hx hb dX11_least_21 (by decide) (fun c3 => ?_) (fun c3 => ?_)
    · have hf := ob_pos c3 hf
      obtain rfl := Option.some.inj hf
      exact K _ _ _ hP hD hS (lv_sub hl [0, 1, 2] rfl)
    · have hf := ob_neg c3 hf
      refine lv_aload_n hx hb dX11_least_24 rfl (lv_at hl 0 rfl) ?_
      refine lv_iload_n hx hb dX11_least_25 rfl (lv_at hl 3 rfl) ?_
      obtain ⟨q4, hq4, hf⟩ := ob_bind hf
      refine k_Vz (wo := (wd_X11_least cyI cyJ cyZ a_this a_sets a_papers a_worths a_sign a_hallSign a_chosen a_upper a_lower v_heaps v_seats v_signs v_hallMany v_chosenSet v_paidSeats v_rhoUp v_rhoBy v_breachGroup v_hallSign v_papers v_sets)) (As := [.int y3]) (rest := []) C (c_X11_isCommittee l D cyI cyJ cyZ a_this a_sets a_papers a_worths a_sign a_hallSign a_chosen a_upper a_lower v_heaps v_seats v_signs v_hallMany v_chosenSet v_paidSeats v_rhoUp v_rhoBy v_breachGroup y3 q4 hq4) cw64 hP hD hS [0] [1, 2, 3] [3, 0, 1, 2] rfl rfl rfl (by decide) 0 (ci := 10) rfl rfl rfl rfl rfl hl.1 (Nat.le_of_ble_eq_true rfl) dX11_least_26 ⟨Nat.zero_le _, Nat.zero_le _⟩ (fun H locs zq4 hP hD hS => ?_)
      refine lv_if_eq (tgt := 44) hx hb dX11_least_29 (by decide) (fun c5 => ?_) (fun c5 => ?_)
      · have hf := ob_pos c5 hf
        refine lv_iconst (v := (0 : Int32)) hx hb dX11_least_44 (by decide) ?_
        refine lv_istore (lv' := [(4, .int (0 : Int32)), (0, .ref a_this), (1, .int y1), (2, .int y2), (3, .int y3)]) hx hb dX11_least_45 hl (by decide) rfl (fun ls hl => ?_)
        refine lv_iload hx hb dX11_least_47 (lv_at hl 0 rfl) ?_
        refine lv_if_eq (tgt := 73) hx hb dX11_least_49 (by decide) (fun c6 => ?_) (fun c6 => ?_)
        · refine lv_iload_n hx hb dX11_least_73 rfl (lv_at hl 3 rfl) ?_
          refine lv_istore_n (lv' := [(2, .int y2), (4, .int (0 : Int32)), (0, .ref a_this), (1, .int y1), (3, .int y3)]) hx hb dX11_least_74 rfl hl (by decide) rfl (fun ls hl => ?_)
          refine lv_iinc (v := (y3 + (1 : Int32))) (lv' := [(3, .int (y3 + (1 : Int32))), (2, .int y2), (4, .int (0 : Int32)), (0, .ref a_this), (1, .int y1)]) hx hb dX11_least_75 hl (k := 4) rfl rfl (by decide) rfl (fun ls hl => ?_)
          refine lv_goto (tgt := 17) hx hb dX11_least_78 (by decide) ?_
          exact ih y2 (y3 + (1 : Int32)) _ _ _ _ hf K hP hD hS (lv_sub hl [3, 4, 1, 0] rfl)
        · exact absurd c6 (by decide)
      · have hf := ob_neg c5 hf
        refine lv_aload_n hx hb dX11_least_32 rfl (lv_at hl 0 rfl) ?_
        refine lv_iload_n hx hb dX11_least_33 rfl (lv_at hl 3 rfl) ?_
        obtain ⟨q7, hq7, hf⟩ := ob_bind hf
        refine k_Vi (wo := (wd_X11_least cyI cyJ cyZ a_this a_sets a_papers a_worths a_sign a_hallSign a_chosen a_upper a_lower v_heaps v_seats v_signs v_hallMany v_chosenSet v_paidSeats v_rhoUp v_rhoBy v_breachGroup v_hallSign v_papers v_sets)) (As := [.int y3]) (rest := []) C (c_X11_barOf l D cyI cyJ cyZ a_this a_sets a_papers a_worths a_sign a_hallSign a_chosen a_upper a_lower v_heaps v_seats v_signs v_hallMany v_chosenSet v_paidSeats v_rhoUp v_rhoBy v_breachGroup v_hallSign y3 q7 hq7) cw67 hP hD hS [0, 1] [2, 3] [2, 3, 0, 1] rfl rfl rfl (by decide) 0 (ci := 10) rfl rfl rfl rfl rfl hl.1 (Nat.le_of_ble_eq_true rfl) dX11_least_34 ⟨Nat.zero_le _, Nat.zero_le _⟩ (fun H locs hP hD hS => ?_)
        refine lv_if_ge (tgt := 44) hx hb dX11_least_37 (by decide) (fun c8 => ?_) (fun c8 => ?_)
        · have hf := ob_pos c8 hf
          refine lv_iconst (v := (0 : Int32)) hx hb dX11_least_44 (by decide) ?_
          refine lv_istore (lv' := [(4, .int (0 : Int32)), (0, .ref a_this), (1, .int y1), (2, .int y2), (3, .int y3)]) hx hb dX11_least_45 hl (by decide) rfl (fun ls hl => ?_)
          refine lv_iload hx hb dX11_least_47 (lv_at hl 0 rfl) ?_
          refine lv_if_eq (tgt := 73) hx hb dX11_least_49 (by decide) (fun c9 => ?_) (fun c9 => ?_)
          · refine lv_iload_n hx hb dX11_least_73 rfl (lv_at hl 3 rfl) ?_
            refine lv_istore_n (lv' := [(2, .int y2), (4, .int (0 : Int32)), (0, .ref a_this), (1, .int y1), (3, .int y3)]) hx hb dX11_least_74 rfl hl (by decide) rfl (fun ls hl => ?_)
            refine lv_iinc (v := (y3 + (1 : Int32))) (lv' := [(3, .int (y3 + (1 : Int32))), (2, .int y2), (4, .int (0 : Int32)), (0, .ref a_this), (1, .int y1)]) hx hb dX11_least_75 hl (k := 4) rfl rfl (by decide) rfl (fun ls hl => ?_)
            refine lv_goto (tgt := 17) hx hb dX11_least_78 (by decide) ?_
            exact ih y2 (y3 + (1 : Int32)) _ _ _ _ hf K hP hD hS (lv_sub hl [3, 4, 1, 0] rfl)
          · exact absurd c9 (by decide)
        · have hf := ob_neg c8 hf
          refine lv_iconst (v := (1 : Int32)) hx hb dX11_least_40 (by decide) ?_
          refine lv_goto (tgt := 45) hx hb dX11_least_41 (by decide) ?_
          refine lv_istore (lv' := [(4, .int (1 : Int32)), (0, .ref a_this), (1, .int y1), (2, .int y2), (3, .int y3)]) hx hb dX11_least_45 hl (by decide) rfl (fun ls hl => ?_)
          refine lv_iload hx hb dX11_least_47 (lv_at hl 0 rfl) ?_
          refine lv_if_eq (tgt := 73) hx hb dX11_least_49 (by decide) (fun c10 => ?_) (fun c10 => ?_)
          · exact absurd c10 (by decide)
          · refine lv_iload_n hx hb dX11_least_52 rfl (lv_at hl 3 rfl) ?_
            refine lv_if_lt (tgt := 69) hx hb dX11_least_53 (by decide) (fun c11 => ?_) (fun c11 => ?_)
            · have hf := ob_pos c11 hf
              refine lv_iload_n hx hb dX11_least_69 rfl (lv_at hl 4 rfl) ?_
              refine lv_goto (tgt := 74) hx hb dX11_least_70 (by decide) ?_
              refine lv_istore_n (lv' := [(2, .int y3), (4, .int (1 : Int32)), (0, .ref a_this), (1, .int y1), (3, .int y3)]) hx hb dX11_least_74 rfl hl (by decide) rfl (fun ls hl => ?_)
              refine lv_iinc (v := (y3 + (1 : Int32))) (lv' := [(3, .int (y3 + (1 : Int32))), (2, .int y3), (4, .int (1 : Int32)), (0, .ref a_this), (1, .int y1)]) hx hb dX11_least_75 hl (k := 4) rfl rfl (by decide) rfl (fun ls hl => ?_)
              refine lv_goto (tgt := 17) hx hb dX11_least_78 (by decide) ?_
              exact ih y3 (y3 + (1 : Int32)) _ _ _ _ hf K hP hD hS (lv_sub hl [3, 4, 1, 0] rfl)
            · have hf := ob_neg c11 hf
              refine lv_aload_n hx hb dX11_least_56 rfl (lv_at hl 1 rfl) ?_
              refine lv_iload_n hx hb dX11_least_57 rfl (lv_at hl 4 rfl) ?_
              obtain ⟨q12, hq12, hf⟩ := ob_bind hf
              refine k_Vi (wo := (wd_X11_least cyI cyJ cyZ a_this a_sets a_papers a_worths a_sign a_hallSign a_chosen a_upper a_lower v_heaps v_seats v_signs v_hallMany v_chosenSet v_paidSeats v_rhoUp v_rhoBy v_breachGroup v_hallSign v_papers v_sets)) (As := [.int y3]) (rest := []) C (c_X11_wronged l D cyI cyJ cyZ a_this a_sets a_papers a_worths a_sign a_hallSign a_chosen a_upper a_lower v_heaps v_seats v_signs v_hallMany v_chosenSet v_paidSeats v_rhoUp v_rhoBy v_breachGroup v_papers v_sets y3 q12 hq12) cw73 hP hD hS [0, 2, 3] [1] [1, 0, 2, 3] rfl rfl rfl (by decide) 0 (ci := 10) rfl rfl rfl rfl rfl hl.1 (Nat.le_of_ble_eq_true rfl) dX11_least_58 ⟨Nat.zero_le _, Nat.zero_le _⟩ (fun H locs hP hD hS => ?_)
              refine lv_aload_n hx hb dX11_least_61 rfl (lv_at hl 1 rfl) ?_
              refine lv_iload_n hx hb dX11_least_62 rfl (lv_at hl 3 rfl) ?_
              obtain ⟨q13, hq13, hf⟩ := ob_bind hf
              refine k_Vi (wo := (wd_X11_least cyI cyJ cyZ a_this a_sets a_papers a_worths a_sign a_hallSign a_chosen a_upper a_lower v_heaps v_seats v_signs v_hallMany v_chosenSet v_paidSeats v_rhoUp v_rhoBy v_breachGroup v_hallSign v_papers v_sets)) (As := [.int y2]) (rest := [.int q12]) C (c_X11_wronged l D cyI cyJ cyZ a_this a_sets a_papers a_worths a_sign a_hallSign a_chosen a_upper a_lower v_heaps v_seats v_signs v_hallMany v_chosenSet v_paidSeats v_rhoUp v_rhoBy v_breachGroup v_papers v_sets y2 q13 hq13) cw73 hP hD hS [0, 2, 3] [1] [1, 0, 2, 3] rfl rfl rfl (by decide) 0 (ci := 10) rfl rfl rfl rfl rfl hl.1 (Nat.le_of_ble_eq_true rfl) dX11_least_63 ⟨Nat.zero_le _, Nat.zero_le _⟩ (fun H locs hP hD hS => ?_)
              refine lv_icmp_ge (tgt := 73) hx hb dX11_least_66 (by decide) (fun c14 => ?_) (fun c14 => ?_)
              · have hf := ob_pos c14 hf
                refine lv_iload_n hx hb dX11_least_73 rfl (lv_at hl 3 rfl) ?_
                refine lv_istore_n (lv' := [(2, .int y2), (4, .int (1 : Int32)), (0, .ref a_this), (1, .int y1), (3, .int y3)]) hx hb dX11_least_74 rfl hl (by decide) rfl (fun ls hl => ?_)
                refine lv_iinc (v := (y3 + (1 : Int32))) (lv' := [(3, .int (y3 + (1 : Int32))), (2, .int y2), (4, .int (1 : Int32)), (0, .ref a_this), (1, .int y1)]) hx hb dX11_least_75 hl (k := 4) rfl rfl (by decide) rfl (fun ls hl => ?_)
                refine lv_goto (tgt := 17) hx hb dX11_least_78 (by decide) ?_
                exact ih y2 (y3 + (1 : Int32)) _ _ _ _ hf K hP hD hS (lv_sub hl [3, 4, 1, 0] rfl)
              · have hf := ob_neg c14 hf
                refine lv_iload_n hx hb dX11_least_69 rfl (lv_at hl 4 rfl) ?_
                refine lv_goto (tgt := 74) hx hb dX11_least_70 (by decide) ?_
                refine lv_istore_n (lv' := [(2, .int y3), (4, .int (1 : Int32)), (0, .ref a_this), (1, .int y1), (3, .int y3)]) hx hb dX11_least_74 rfl hl (by decide) rfl (fun ls hl => ?_)
                refine lv_iinc (v := (y3 + (1 : Int32))) (lv' := [(3, .int (y3 + (1 : Int32))), (2, .int y3), (4, .int (1 : Int32)), (0, .ref a_this), (1, .int y1)]) hx hb dX11_least_75 hl (k := 4) rfl rfl (by decide) rfl (fun ls hl => ?_)
                refine lv_goto (tgt := 17) hx hb dX11_least_78 (by decide) ?_
                exact ih y3 (y3 + (1 : Int32)) _ _ _ _ hf K hP hD hS (lv_sub hl [3, 4, 1, 0] rfl)
set_option maxHeartbeats 4000000 in
set_option maxRecDepth 100000 in
theorem c_X11_least (l : Launch) (D : va_G) (cyI cyJ cyZ : ClassId) (a_this a_sets a_papers a_worths a_sign a_hallSign a_chosen a_upper a_lower : Nat) (v_heaps : Int32) (v_seats : Int32) (v_signs : Int32) (v_hallMany : Int32) (v_chosenSet : Int32) (v_paidSeats : Int32) (v_rhoUp : Int64) (v_rhoBy : Int64) (v_breachGroup : Int32) (v_hallSign : Nat → Int32) (v_papers : Nat → Int32) (v_sets : Nat → Int32) (x1 : Int32) (q : Int32) (hf : f_X11_least x1 v_heaps v_seats v_hallMany v_hallSign v_papers v_sets = some q) : kMi l yX11_least wsX11_least rm_X11_least D (kTy cyI cyJ cyZ) [.ref a_this, .int x1] (wd_X11_least cyI cyJ cyZ a_this a_sets a_papers a_worths a_sign a_hallSign a_chosen a_upper a_lower v_heaps v_seats v_signs v_hallMany v_chosenSet v_paidSeats v_rhoUp v_rhoBy v_breachGroup v_hallSign v_papers v_sets) (wd_X11_least cyI cyJ cyZ a_this a_sets a_papers a_worths a_sign a_hallSign a_chosen a_upper a_lower v_heaps v_seats v_signs v_hallMany v_chosenSet v_paidSeats v_rhoUp v_rhoBy v_breachGroup v_hallSign v_papers v_sets) q := by
  refine kMi_of (cc := cX11_least) (nL := 5) (own := RX11) (by decide) rfl rfl (Nat.le_of_ble_eq_true rfl) ?_
  intro p e s m below meth c A Q ls C hret hP hD hS hl
  have hl : lv_has ls 5 [(0, .ref a_this), (1, .int x1)] := hl
  unfold f_X11_least at hf
  obtain ⟨hx, hb, hml, hown, hts, hK, hA⟩ := id C
  have cw42 := va_cwS (R := rm_X11_least) (rm := rm_X11_in) 3 hts gX11_least_X11_in rfl rfl rfl (by decide +kernel) ⟨Nat.le_of_ble_eq_true rfl, Nat.le_of_ble_eq_true rfl⟩
  have cw73 := cwV (R := rm_X11_least) (rm := rm_X11_wronged) 1 hts gX11_least_X11_wronged rfl rfl rfl (by decide +kernel) ⟨Nat.le_of_ble_eq_true rfl, Nat.le_of_ble_eq_true rfl⟩
  refine lv_iload_n hx hb dX11_least_0 rfl (lv_at hl 1 rfl) ?_
  refine lv_iconst (v := (0 : Int32)) hx hb dX11_least_1 (by decide) ?_
  refine lv_iconst (v := (1 : Int32)) hx hb dX11_least_2 (by decide) ?_
  obtain ⟨q1, hq1, hf⟩ := ob_bind hf
  refine k_Sz (wo := (wd_X11_least cyI cyJ cyZ a_this a_sets a_papers a_worths a_sign a_hallSign a_chosen a_upper a_lower v_heaps v_seats v_signs v_hallMany v_chosenSet v_paidSeats v_rhoUp v_rhoBy v_breachGroup v_hallSign v_papers v_sets)) (As := [.int x1, .int (0 : Int32), .int (1 : Int32)]) (rest := []) C (c_X11_in l D cyI cyJ cyZ   x1 (0 : Int32) (1 : Int32) q1 hq1) cw42 hP hD hS [] [0, 1, 2, 3] [0, 1, 2, 3] rfl rfl rfl (by decide) rfl rfl hl.1 (Nat.le_of_ble_eq_true rfl) dX11_least_3 ⟨Nat.zero_le _, Nat.zero_le _⟩ (fun H locs zq1 hP hD hS => ?_)
  refine lv_if_ne (tgt := 12) hx hb dX11_least_6 (by decide) (fun c2 => ?_) (fun c2 => ?_)
  · have hf := ob_neg c2 hf
    refine lv_bipush (v := (-6 : Int32)) hx hb dX11_least_12 (by decide) ?_
    refine lv_istore_n (lv' := [(2, .int (-6 : Int32)), (0, .ref a_this), (1, .int x1)]) hx hb dX11_least_14 rfl hl (by decide) rfl (fun ls hl => ?_)
    refine lv_iconst (v := (0 : Int32)) hx hb dX11_least_15 (by decide) ?_
    refine lv_istore_n (lv' := [(3, .int (0 : Int32)), (2, .int (-6 : Int32)), (0, .ref a_this), (1, .int x1)]) hx hb dX11_least_16 rfl hl (by decide) rfl (fun ls hl => ?_)
    obtain ⟨q15, hq15, hf⟩ := ob_bind hf
    refine wl_X11_least_17 C FU (-6 : Int32) (0 : Int32) _ _ _ _ hq15 (fun H locs ls hP hD hS hl => ?_) hP hD hS (lv_sub hl [2, 3, 1, 0] rfl)
    refine lv_iload_n hx hb dX11_least_81 rfl (lv_at hl 2 rfl) ?_
    refine lv_if_lt (tgt := 89) hx hb dX11_least_82 (by decide) (fun c16 => ?_) (fun c16 => ?_)
    · have hf := ob_pos c16 hf
      refine lv_iload_n hx hb dX11_least_89 rfl (lv_at hl 2 rfl) ?_
      refine lv_goto (tgt := 98) hx hb dX11_least_90 (by decide) ?_
      obtain rfl := Option.some.inj hf
      exact hret _ _ _ _ dX11_least_98 hP hD hS
    · have hf := ob_neg c16 hf
      refine lv_iload_n hx hb dX11_least_85 rfl (lv_at hl 1 rfl) ?_
      refine lv_if_ne (tgt := 93) hx hb dX11_least_86 (by decide) (fun c17 => ?_) (fun c17 => ?_)
      · have hf := ob_neg c17 hf
        refine lv_aload_n hx hb dX11_least_93 rfl (lv_at hl 0 rfl) ?_
        refine lv_iload_n hx hb dX11_least_94 rfl (lv_at hl 2 rfl) ?_
        obtain ⟨q18, hq18, hf⟩ := ob_bind hf
        refine k_Vi (wo := (wd_X11_least cyI cyJ cyZ a_this a_sets a_papers a_worths a_sign a_hallSign a_chosen a_upper a_lower v_heaps v_seats v_signs v_hallMany v_chosenSet v_paidSeats v_rhoUp v_rhoBy v_breachGroup v_hallSign v_papers v_sets)) (As := [.int q15]) (rest := []) C (c_X11_wronged l D cyI cyJ cyZ a_this a_sets a_papers a_worths a_sign a_hallSign a_chosen a_upper a_lower v_heaps v_seats v_signs v_hallMany v_chosenSet v_paidSeats v_rhoUp v_rhoBy v_breachGroup v_papers v_sets q15 q18 hq18) cw73 hP hD hS [0, 2, 3] [1] [1, 0, 2, 3] rfl rfl rfl (by decide) 0 (ci := 10) rfl rfl rfl rfl rfl hl.1 (Nat.le_of_ble_eq_true rfl) dX11_least_95 ⟨Nat.zero_le _, Nat.zero_le _⟩ (fun H locs hP hD hS => ?_)
        obtain rfl := Option.some.inj hf
        exact hret _ _ _ _ dX11_least_98 hP hD hS
      · have hf := ob_pos c17 hf
        refine lv_iload_n hx hb dX11_least_89 rfl (lv_at hl 2 rfl) ?_
        refine lv_goto (tgt := 98) hx hb dX11_least_90 (by decide) ?_
        obtain rfl := Option.some.inj hf
        exact hret _ _ _ _ dX11_least_98 hP hD hS
  · have hf := ob_pos c2 hf
    refine lv_bipush (v := (-2 : Int32)) hx hb dX11_least_9 (by decide) ?_
    obtain rfl := Option.some.inj hf
    exact hret _ _ _ _ dX11_least_11 hP hD hS
abbrev rm_X11_nearest : Room := { frames := 4, cells := 0, slots := 0, locals := 95 }
abbrev wd_X11_nearest (cyI cyJ cyZ : ClassId) (a_this a_sets a_papers a_worths a_sign a_hallSign a_chosen a_upper a_lower : Nat) (v_heaps : Int32) (v_seats : Int32) (v_signs : Int32) (v_hallMany : Int32) (v_chosenSet : Int32) (v_paidSeats : Int32) (v_rhoUp : Int64) (v_rhoBy : Int64) (v_breachGroup : Int32) (v_hallSign : Nat → Int32) (v_papers : Nat → Int32) (v_sets : Nat → Int32) : va_W := [(a_this, .inr (10, [.int v_heaps, .ref a_sets, .ref a_papers, .int v_seats, .ref a_worths, .int v_signs, .ref a_sign, .int v_hallMany, .ref a_hallSign, .ref a_chosen, .int v_chosenSet, .int v_paidSeats, .ref a_upper, .ref a_lower, .long v_rhoUp, .long v_rhoBy, .int v_breachGroup])), (a_hallSign, .inl (cyI, 40, .inl v_hallSign)), (a_papers, .inl (cyI, 7, .inl v_papers)), (a_sets, .inl (cyI, 7, .inl v_sets))]
def lp_X11_nearest_26 (y1 : Int32) (y2 : Int32) (v_heaps : Int32) (v_seats : Int32) (v_hallMany : Int32) (v_hallSign : Nat → Int32) (v_papers : Nat → Int32) (v_sets : Nat → Int32) : Nat → Int32 → Int32 → Int32 → Option (Int32 × Int32)
  | 0, _, _, _ => none
  | n + 1, y3, y4, v_breachGroup => (if (256 : Int32) ≤ y4 then some (y3, v_breachGroup) else (if y3 < 0 then (f_X11_isKept y1 y4 v_heaps v_seats v_hallMany v_breachGroup v_hallSign v_papers v_sets).bind (fun q8 => (if q8.1 = 0 then lp_X11_nearest_26 y1 y2 v_heaps v_seats v_hallMany v_hallSign v_papers v_sets n y3 (y4 + (1 : Int32)) q8.2 else lp_X11_nearest_26 y1 y2 v_heaps v_seats v_hallMany v_hallSign v_papers v_sets n y4 (y4 + (1 : Int32)) q8.2)) else (f_X11_bits (y4 &&& (y2 ^^^ (-1 : Int32)))).bind (fun q10 => (f_X11_bits (y3 &&& (y2 ^^^ (-1 : Int32)))).bind (fun q11 => (if q11 ≤ q10 then lp_X11_nearest_26 y1 y2 v_heaps v_seats v_hallMany v_hallSign v_papers v_sets n y3 (y4 + (1 : Int32)) v_breachGroup else (f_X11_isKept y1 y4 v_heaps v_seats v_hallMany v_breachGroup v_hallSign v_papers v_sets).bind (fun q15 => (if q15.1 = 0 then lp_X11_nearest_26 y1 y2 v_heaps v_seats v_hallMany v_hallSign v_papers v_sets n y3 (y4 + (1 : Int32)) q15.2 else lp_X11_nearest_26 y1 y2 v_heaps v_seats v_hallMany v_hallSign v_papers v_sets n y4 (y4 + (1 : Int32)) q15.2)))))))
def f_X11_nearest (x1 : Int32) (x2 : Int32) (v_heaps : Int32) (v_seats : Int32) (v_hallMany : Int32) (v_breachGroup : Int32) (v_hallSign : Nat → Int32) (v_papers : Nat → Int32) (v_sets : Nat → Int32) : Option (Int32 × Int32) := (f_X11_isLaw x1).bind (fun q1 => (if q1 = 0 then some ((-1 : Int32), v_breachGroup) else (f_X11_isCommittee x2 v_seats).bind (fun q3 => (if q3 = 0 then some ((-2 : Int32), v_breachGroup) else (lp_X11_nearest_26 x1 x2 v_heaps v_seats v_hallMany v_hallSign v_papers v_sets FU (-6 : Int32) (0 : Int32) v_breachGroup).bind (fun q17 => some (q17.1, q17.2))))))
set_option maxHeartbeats 4000000 in
set_option maxRecDepth 100000 in
theorem wl_X11_nearest_26 {p : Program} {l : Launch} {e : Env} {s : State} {m : MethodId} {args : Array Value} {below : List Frame} {meth : Method} {c : Code} {A : Nat → Prop} {Q : State → Prop} {D : va_G} {cyI cyJ cyZ : ClassId} {a_this a_sets a_papers a_worths a_sign a_hallSign a_chosen a_upper a_lower : Nat} {y1 : Int32} {y2 : Int32} {v_heaps : Int32} {v_seats : Int32} {v_signs : Int32} {v_hallMany : Int32} {v_chosenSet : Int32} {v_paidSeats : Int32} {v_rhoUp : Int64} {v_rhoBy : Int64} {v_hallSign : Nat → Int32} {v_papers : Nat → Int32} {v_sets : Nat → Int32} (C : kC p s m args c cX11_nearest 6 RX11 wsX11_nearest D (kTy cyI cyJ cyZ) A) :
    ∀ (n : Nat) (y3 : Int32) (y4 : Int32) (v_breachGroup : Int32) (q : Int32 × Int32) (H : Heap) (locs : List Loc) (ls : Array Slot), lp_X11_nearest_26 y1 y2 v_heaps v_seats v_hallMany v_hallSign v_papers v_sets n y3 y4 v_breachGroup = some q → (∀ (H : Heap) (locs : List Loc) (ls : Array Slot), va_P D vwCl (wd_X11_nearest cyI cyJ cyZ a_this a_sets a_papers a_worths a_sign a_hallSign a_chosen a_upper a_lower v_heaps v_seats v_signs v_hallMany v_chosenSet v_paidSeats v_rhoUp v_rhoBy q.2 v_hallSign v_papers v_sets) H → va_D A (wd_X11_nearest cyI cyJ cyZ a_this a_sets a_papers a_worths a_sign a_hallSign a_chosen a_upper a_lower v_heaps v_seats v_signs v_hallMany v_chosenSet v_paidSeats v_rhoUp v_rhoBy q.2 v_hallSign v_papers v_sets) → va_S A s.heap H locs → lv_has ls 6 [(3, .int q.1)] → W p l e rm_X11_nearest s m args below meth c H locs 0 0 Q (F0 m 93 ls [])) → va_P D vwCl (wd_X11_nearest cyI cyJ cyZ a_this a_sets a_papers a_worths a_sign a_hallSign a_chosen a_upper a_lower v_heaps v_seats v_signs v_hallMany v_chosenSet v_paidSeats v_rhoUp v_rhoBy v_breachGroup v_hallSign v_papers v_sets) H → va_D A (wd_X11_nearest cyI cyJ cyZ a_this a_sets a_papers a_worths a_sign a_hallSign a_chosen a_upper a_lower v_heaps v_seats v_signs v_hallMany v_chosenSet v_paidSeats v_rhoUp v_rhoBy v_breachGroup v_hallSign v_papers v_sets) → va_S A s.heap H locs → lv_has ls 6 [(0, .ref a_this), (1, .int y1), (2, .int y2), (3, .int y3), (4, .int y4)] → W p l e rm_X11_nearest s m args below meth c H locs 0 0 Q (F0 m 26 ls []) := by
  obtain ⟨hx, hb, hml, hown, hts, hK, hA⟩ := id C
  have cw60 := va_cwS (R := rm_X11_nearest) (rm := rm_X11_bits) 1 hts gX11_nearest_X11_bits rfl rfl rfl (by decide +kernel) ⟨Nat.le_of_ble_eq_true rfl, Nat.le_of_ble_eq_true rfl⟩
  have cw167 := cwV (R := rm_X11_nearest) (rm := rm_X11_isKept) 2 hts gX11_nearest_X11_isKept rfl rfl rfl (by decide +kernel) ⟨Nat.le_of_ble_eq_true rfl, Nat.le_of_ble_eq_true rfl⟩
  intro n
  induction n with
  | zero =>
    intro y3 y4 v_breachGroup q H locs ls hf K hP hD hS hl
    rw [lp_X11_nearest_26] at hf
    cases hf
  | succ n ih =>
    intro y3 y4 v_breachGroup q H locs ls hf K hP hD hS hl
    rw [lp_X11_nearest_26] at hf
    refine lv_iload hx hb dX11_nearest_26 (lv_at hl 4 rfl) ?_
    refine lv_sipush (v := (256 : Int32)) hx hb dX11_nearest_28 (by decide) ?_
    refine lv_icmp_ge (tgt := 93) hx hb dX11_nearest_31 (by decide) (fun c5 => ?_) (fun c5 => ?_)
    · have hf := ob_pos c5 hf
      obtain rfl := Option.some.inj hf
      exact K _ _ _ hP hD hS (lv_sub hl [3] rfl)
    · have hf := ob_neg c5 hf
      refine lv_iload_n hx hb dX11_nearest_34 rfl (lv_at hl 3 rfl) ?_
      refine lv_if_lt (tgt := 58) hx hb dX11_nearest_35 (by decide) (fun c6 => ?_) (fun c6 => ?_)
      · have hf := ob_pos c6 hf
        refine lv_iconst (v := (1 : Int32)) hx hb dX11_nearest_58 (by decide) ?_
        refine lv_goto (tgt := 63) hx hb dX11_nearest_59 (by decide) ?_
        refine lv_istore (lv' := [(5, .int (1 : Int32)), (0, .ref a_this), (1, .int y1), (2, .int y2), (3, .int y3), (4, .int y4)]) hx hb dX11_nearest_63 hl (by decide) rfl (fun ls hl => ?_)
        refine lv_iload hx hb dX11_nearest_65 (lv_at hl 0 rfl) ?_
        refine lv_if_eq (tgt := 85) hx hb dX11_nearest_67 (by decide) (fun c7 => ?_) (fun c7 => ?_)
        · exact absurd c7 (by decide)
        · refine lv_aload_n hx hb dX11_nearest_70 rfl (lv_at hl 1 rfl) ?_
          refine lv_iload_n hx hb dX11_nearest_71 rfl (lv_at hl 2 rfl) ?_
          refine lv_iload hx hb dX11_nearest_72 (lv_at hl 5 rfl) ?_
          obtain ⟨q8, hq8, hf⟩ := ob_bind hf
          refine k_Vz (wo := (wd_X11_nearest cyI cyJ cyZ a_this a_sets a_papers a_worths a_sign a_hallSign a_chosen a_upper a_lower v_heaps v_seats v_signs v_hallMany v_chosenSet v_paidSeats v_rhoUp v_rhoBy q8.2 v_hallSign v_papers v_sets)) (As := [.int y1, .int y4]) (rest := []) C (c_X11_isKept l D cyI cyJ cyZ a_this a_sets a_papers a_worths a_sign a_hallSign a_chosen a_upper a_lower v_heaps v_seats v_signs v_hallMany v_chosenSet v_paidSeats v_rhoUp v_rhoBy v_breachGroup v_hallSign v_papers v_sets y1 y4 q8 hq8) cw167 hP hD hS [0, 1, 2, 3] [] [0, 1, 2, 3] rfl rfl rfl (by decide) 0 (ci := 10) rfl rfl rfl rfl rfl hl.1 (Nat.le_of_ble_eq_true rfl) dX11_nearest_74 ⟨Nat.zero_le _, Nat.zero_le _⟩ (fun H locs zq8 hP hD hS => ?_)
          refine lv_if_eq (tgt := 85) hx hb dX11_nearest_77 (by decide) (fun c9 => ?_) (fun c9 => ?_)
          · have hf := ob_pos c9 hf
            refine lv_iload_n hx hb dX11_nearest_85 rfl (lv_at hl 4 rfl) ?_
            refine lv_istore_n (lv' := [(3, .int y3), (5, .int (1 : Int32)), (0, .ref a_this), (1, .int y1), (2, .int y2), (4, .int y4)]) hx hb dX11_nearest_86 rfl hl (by decide) rfl (fun ls hl => ?_)
            refine lv_iinc (v := (y4 + (1 : Int32))) (lv' := [(4, .int (y4 + (1 : Int32))), (3, .int y3), (5, .int (1 : Int32)), (0, .ref a_this), (1, .int y1), (2, .int y2)]) hx hb dX11_nearest_87 hl (k := 5) rfl rfl (by decide) rfl (fun ls hl => ?_)
            refine lv_goto (tgt := 26) hx hb dX11_nearest_90 (by decide) ?_
            exact ih y3 (y4 + (1 : Int32)) q8.2 _ _ _ _ hf K hP hD hS (lv_sub hl [3, 4, 5, 1, 0] rfl)
          · have hf := ob_neg c9 hf
            refine lv_iload hx hb dX11_nearest_80 (lv_at hl 5 rfl) ?_
            refine lv_goto (tgt := 86) hx hb dX11_nearest_82 (by decide) ?_
            refine lv_istore_n (lv' := [(3, .int y4), (5, .int (1 : Int32)), (0, .ref a_this), (1, .int y1), (2, .int y2), (4, .int y4)]) hx hb dX11_nearest_86 rfl hl (by decide) rfl (fun ls hl => ?_)
            refine lv_iinc (v := (y4 + (1 : Int32))) (lv' := [(4, .int (y4 + (1 : Int32))), (3, .int y4), (5, .int (1 : Int32)), (0, .ref a_this), (1, .int y1), (2, .int y2)]) hx hb dX11_nearest_87 hl (k := 5) rfl rfl (by decide) rfl (fun ls hl => ?_)
            refine lv_goto (tgt := 26) hx hb dX11_nearest_90 (by decide) ?_
            exact ih y4 (y4 + (1 : Int32)) q8.2 _ _ _ _ hf K hP hD hS (lv_sub hl [3, 4, 5, 1, 0] rfl)
      · have hf := ob_neg c6 hf
        refine lv_iload hx hb dX11_nearest_38 (lv_at hl 4 rfl) ?_
        refine lv_iload_n hx hb dX11_nearest_40 rfl (lv_at hl 2 rfl) ?_
        refine lv_iconst (v := (-1 : Int32)) hx hb dX11_nearest_41 (by decide) ?_
        refine lv_ixor hx hb dX11_nearest_42 ?_
        refine lv_iand hx hb dX11_nearest_43 ?_
        obtain ⟨q10, hq10, hf⟩ := ob_bind hf
        refine k_Si (wo := (wd_X11_nearest cyI cyJ cyZ a_this a_sets a_papers a_worths a_sign a_hallSign a_chosen a_upper a_lower v_heaps v_seats v_signs v_hallMany v_chosenSet v_paidSeats v_rhoUp v_rhoBy v_breachGroup v_hallSign v_papers v_sets)) (As := [.int (y4 &&& (y2 ^^^ (-1 : Int32)))]) (rest := []) C (c_X11_bits l D cyI cyJ cyZ   (y4 &&& (y2 ^^^ (-1 : Int32))) q10 hq10) cw60 hP hD hS [] [0, 1, 2, 3] [0, 1, 2, 3] rfl rfl rfl (by decide) rfl rfl hl.1 (Nat.le_of_ble_eq_true rfl) dX11_nearest_44 ⟨Nat.zero_le _, Nat.zero_le _⟩ (fun H locs hP hD hS => ?_)
        refine lv_iload_n hx hb dX11_nearest_47 rfl (lv_at hl 3 rfl) ?_
        refine lv_iload_n hx hb dX11_nearest_48 rfl (lv_at hl 2 rfl) ?_
        refine lv_iconst (v := (-1 : Int32)) hx hb dX11_nearest_49 (by decide) ?_
        refine lv_ixor hx hb dX11_nearest_50 ?_
        refine lv_iand hx hb dX11_nearest_51 ?_
        obtain ⟨q11, hq11, hf⟩ := ob_bind hf
        refine k_Si (wo := (wd_X11_nearest cyI cyJ cyZ a_this a_sets a_papers a_worths a_sign a_hallSign a_chosen a_upper a_lower v_heaps v_seats v_signs v_hallMany v_chosenSet v_paidSeats v_rhoUp v_rhoBy v_breachGroup v_hallSign v_papers v_sets)) (As := [.int (y3 &&& (y2 ^^^ (-1 : Int32)))]) (rest := [.int q10]) C (c_X11_bits l D cyI cyJ cyZ   (y3 &&& (y2 ^^^ (-1 : Int32))) q11 hq11) cw60 hP hD hS [] [0, 1, 2, 3] [0, 1, 2, 3] rfl rfl rfl (by decide) rfl rfl hl.1 (Nat.le_of_ble_eq_true rfl) dX11_nearest_52 ⟨Nat.zero_le _, Nat.zero_le _⟩ (fun H locs hP hD hS => ?_)
        refine lv_icmp_ge (tgt := 62) hx hb dX11_nearest_55 (by decide) (fun c12 => ?_) (fun c12 => ?_)
        · have hf := ob_pos c12 hf
          refine lv_iconst (v := (0 : Int32)) hx hb dX11_nearest_62 (by decide) ?_
          refine lv_istore (lv' := [(5, .int (0 : Int32)), (0, .ref a_this), (1, .int y1), (2, .int y2), (3, .int y3), (4, .int y4)]) hx hb dX11_nearest_63 hl (by decide) rfl (fun ls hl => ?_)
          refine lv_iload hx hb dX11_nearest_65 (lv_at hl 0 rfl) ?_
          refine lv_if_eq (tgt := 85) hx hb dX11_nearest_67 (by decide) (fun c13 => ?_) (fun c13 => ?_)
          · refine lv_iload_n hx hb dX11_nearest_85 rfl (lv_at hl 4 rfl) ?_
            refine lv_istore_n (lv' := [(3, .int y3), (5, .int (0 : Int32)), (0, .ref a_this), (1, .int y1), (2, .int y2), (4, .int y4)]) hx hb dX11_nearest_86 rfl hl (by decide) rfl (fun ls hl => ?_)
            refine lv_iinc (v := (y4 + (1 : Int32))) (lv' := [(4, .int (y4 + (1 : Int32))), (3, .int y3), (5, .int (0 : Int32)), (0, .ref a_this), (1, .int y1), (2, .int y2)]) hx hb dX11_nearest_87 hl (k := 5) rfl rfl (by decide) rfl (fun ls hl => ?_)
            refine lv_goto (tgt := 26) hx hb dX11_nearest_90 (by decide) ?_
            exact ih y3 (y4 + (1 : Int32)) v_breachGroup _ _ _ _ hf K hP hD hS (lv_sub hl [3, 4, 5, 1, 0] rfl)
          · exact absurd c13 (by decide)
        · have hf := ob_neg c12 hf
          refine lv_iconst (v := (1 : Int32)) hx hb dX11_nearest_58 (by decide) ?_
          refine lv_goto (tgt := 63) hx hb dX11_nearest_59 (by decide) ?_
          refine lv_istore (lv' := [(5, .int (1 : Int32)), (0, .ref a_this), (1, .int y1), (2, .int y2), (3, .int y3), (4, .int y4)]) hx hb dX11_nearest_63 hl (by decide) rfl (fun ls hl => ?_)
          refine lv_iload hx hb dX11_nearest_65 (lv_at hl 0 rfl) ?_
          refine lv_if_eq (tgt := 85) hx hb dX11_nearest_67 (by decide) (fun c14 => ?_) (fun c14 => ?_)
          · exact absurd c14 (by decide)
          · refine lv_aload_n hx hb dX11_nearest_70 rfl (lv_at hl 1 rfl) ?_
            refine lv_iload_n hx hb dX11_nearest_71 rfl (lv_at hl 2 rfl) ?_
            refine lv_iload hx hb dX11_nearest_72 (lv_at hl 5 rfl) ?_
            obtain ⟨q15, hq15, hf⟩ := ob_bind hf
            refine k_Vz (wo := (wd_X11_nearest cyI cyJ cyZ a_this a_sets a_papers a_worths a_sign a_hallSign a_chosen a_upper a_lower v_heaps v_seats v_signs v_hallMany v_chosenSet v_paidSeats v_rhoUp v_rhoBy q15.2 v_hallSign v_papers v_sets)) (As := [.int y1, .int y4]) (rest := []) C (c_X11_isKept l D cyI cyJ cyZ a_this a_sets a_papers a_worths a_sign a_hallSign a_chosen a_upper a_lower v_heaps v_seats v_signs v_hallMany v_chosenSet v_paidSeats v_rhoUp v_rhoBy v_breachGroup v_hallSign v_papers v_sets y1 y4 q15 hq15) cw167 hP hD hS [0, 1, 2, 3] [] [0, 1, 2, 3] rfl rfl rfl (by decide) 0 (ci := 10) rfl rfl rfl rfl rfl hl.1 (Nat.le_of_ble_eq_true rfl) dX11_nearest_74 ⟨Nat.zero_le _, Nat.zero_le _⟩ (fun H locs zq15 hP hD hS => ?_)
            refine lv_if_eq (tgt := 85) hx hb dX11_nearest_77 (by decide) (fun c16 => ?_) (fun c16 => ?_)
            · have hf := ob_pos c16 hf
              refine lv_iload_n hx hb dX11_nearest_85 rfl (lv_at hl 4 rfl) ?_
              refine lv_istore_n (lv' := [(3, .int y3), (5, .int (1 : Int32)), (0, .ref a_this), (1, .int y1), (2, .int y2), (4, .int y4)]) hx hb dX11_nearest_86 rfl hl (by decide) rfl (fun ls hl => ?_)
              refine lv_iinc (v := (y4 + (1 : Int32))) (lv' := [(4, .int (y4 + (1 : Int32))), (3, .int y3), (5, .int (1 : Int32)), (0, .ref a_this), (1, .int y1), (2, .int y2)]) hx hb dX11_nearest_87 hl (k := 5) rfl rfl (by decide) rfl (fun ls hl => ?_)
              refine lv_goto (tgt := 26) hx hb dX11_nearest_90 (by decide) ?_
              exact ih y3 (y4 + (1 : Int32)) q15.2 _ _ _ _ hf K hP hD hS (lv_sub hl [3, 4, 5, 1, 0] rfl)
            · have hf := ob_neg c16 hf
              refine lv_iload hx hb dX11_nearest_80 (lv_at hl 5 rfl) ?_
              refine lv_goto (tgt := 86) hx hb dX11_nearest_82 (by decide) ?_
              refine lv_istore_n (lv' := [(3, .int y4), (5, .int (1 : Int32)), (0, .ref a_this), (1, .int y1), (2, .int y2), (4, .int y4)]) hx hb dX11_nearest_86 rfl hl (by decide) rfl (fun ls hl => ?_)
              refine lv_iinc (v := (y4 + (1 : Int32))) (lv' := [(4, .int (y4 + (1 : Int32))), (3, .int y4), (5, .int (1 : Int32)), (0, .ref a_this), (1, .int y1), (2, .int y2)]) hx hb dX11_nearest_87 hl (k := 5) rfl rfl (by decide) rfl (fun ls hl => ?_)
              refine lv_goto (tgt := 26) hx hb dX11_nearest_90 (by decide) ?_
              exact ih y4 (y4 + (1 : Int32)) q15.2 _ _ _ _ hf K hP hD hS (lv_sub hl [3, 4, 5, 1, 0] rfl)
set_option maxHeartbeats 4000000 in
set_option maxRecDepth 100000 in
theorem c_X11_nearest (l : Launch) (D : va_G) (cyI cyJ cyZ : ClassId) (a_this a_sets a_papers a_worths a_sign a_hallSign a_chosen a_upper a_lower : Nat) (v_heaps : Int32) (v_seats : Int32) (v_signs : Int32) (v_hallMany : Int32) (v_chosenSet : Int32) (v_paidSeats : Int32) (v_rhoUp : Int64) (v_rhoBy : Int64) (v_breachGroup : Int32) (v_hallSign : Nat → Int32) (v_papers : Nat → Int32) (v_sets : Nat → Int32) (x1 : Int32) (x2 : Int32) (q : Int32 × Int32) (hf : f_X11_nearest x1 x2 v_heaps v_seats v_hallMany v_breachGroup v_hallSign v_papers v_sets = some q) : kMi l yX11_nearest wsX11_nearest rm_X11_nearest D (kTy cyI cyJ cyZ) [.ref a_this, .int x1, .int x2] (wd_X11_nearest cyI cyJ cyZ a_this a_sets a_papers a_worths a_sign a_hallSign a_chosen a_upper a_lower v_heaps v_seats v_signs v_hallMany v_chosenSet v_paidSeats v_rhoUp v_rhoBy v_breachGroup v_hallSign v_papers v_sets) (wd_X11_nearest cyI cyJ cyZ a_this a_sets a_papers a_worths a_sign a_hallSign a_chosen a_upper a_lower v_heaps v_seats v_signs v_hallMany v_chosenSet v_paidSeats v_rhoUp v_rhoBy q.2 v_hallSign v_papers v_sets) q.1 := by
  refine kMi_of (cc := cX11_nearest) (nL := 6) (own := RX11) (by decide) rfl rfl (Nat.le_of_ble_eq_true rfl) ?_
  intro p e s m below meth c A Q ls C hret hP hD hS hl
  have hl : lv_has ls 6 [(0, .ref a_this), (1, .int x1), (2, .int x2)] := hl
  unfold f_X11_nearest at hf
  obtain ⟨hx, hb, hml, hown, hts, hK, hA⟩ := id C
  have cw64 := cwV (R := rm_X11_nearest) (rm := rm_X11_isCommittee) 1 hts gX11_nearest_X11_isCommittee rfl rfl rfl (by decide +kernel) ⟨Nat.le_of_ble_eq_true rfl, Nat.le_of_ble_eq_true rfl⟩
  have cw161 := va_cwS (R := rm_X11_nearest) (rm := rm_X11_isLaw) 1 hts gX11_nearest_X11_isLaw rfl rfl rfl (by decide +kernel) ⟨Nat.le_of_ble_eq_true rfl, Nat.le_of_ble_eq_true rfl⟩
  refine lv_iload_n hx hb dX11_nearest_0 rfl (lv_at hl 1 rfl) ?_
  obtain ⟨q1, hq1, hf⟩ := ob_bind hf
  refine k_Sz (wo := (wd_X11_nearest cyI cyJ cyZ a_this a_sets a_papers a_worths a_sign a_hallSign a_chosen a_upper a_lower v_heaps v_seats v_signs v_hallMany v_chosenSet v_paidSeats v_rhoUp v_rhoBy v_breachGroup v_hallSign v_papers v_sets)) (As := [.int x1]) (rest := []) C (c_X11_isLaw l D cyI cyJ cyZ   x1 q1 hq1) cw161 hP hD hS [] [0, 1, 2, 3] [0, 1, 2, 3] rfl rfl rfl (by decide) rfl rfl hl.1 (Nat.le_of_ble_eq_true rfl) dX11_nearest_1 ⟨Nat.zero_le _, Nat.zero_le _⟩ (fun H locs zq1 hP hD hS => ?_)
  refine lv_if_ne (tgt := 9) hx hb dX11_nearest_4 (by decide) (fun c2 => ?_) (fun c2 => ?_)
  · have hf := ob_neg c2 hf
    refine lv_aload_n hx hb dX11_nearest_9 rfl (lv_at hl 0 rfl) ?_
    refine lv_iload_n hx hb dX11_nearest_10 rfl (lv_at hl 2 rfl) ?_
    obtain ⟨q3, hq3, hf⟩ := ob_bind hf
    refine k_Vz (wo := (wd_X11_nearest cyI cyJ cyZ a_this a_sets a_papers a_worths a_sign a_hallSign a_chosen a_upper a_lower v_heaps v_seats v_signs v_hallMany v_chosenSet v_paidSeats v_rhoUp v_rhoBy v_breachGroup v_hallSign v_papers v_sets)) (As := [.int x2]) (rest := []) C (c_X11_isCommittee l D cyI cyJ cyZ a_this a_sets a_papers a_worths a_sign a_hallSign a_chosen a_upper a_lower v_heaps v_seats v_signs v_hallMany v_chosenSet v_paidSeats v_rhoUp v_rhoBy v_breachGroup x2 q3 hq3) cw64 hP hD hS [0] [1, 2, 3] [3, 0, 1, 2] rfl rfl rfl (by decide) 0 (ci := 10) rfl rfl rfl rfl rfl hl.1 (Nat.le_of_ble_eq_true rfl) dX11_nearest_11 ⟨Nat.zero_le _, Nat.zero_le _⟩ (fun H locs zq3 hP hD hS => ?_)
    refine lv_if_ne (tgt := 20) hx hb dX11_nearest_14 (by decide) (fun c4 => ?_) (fun c4 => ?_)
    · have hf := ob_neg c4 hf
      refine lv_bipush (v := (-6 : Int32)) hx hb dX11_nearest_20 (by decide) ?_
      refine lv_istore_n (lv' := [(3, .int (-6 : Int32)), (0, .ref a_this), (1, .int x1), (2, .int x2)]) hx hb dX11_nearest_22 rfl hl (by decide) rfl (fun ls hl => ?_)
      refine lv_iconst (v := (0 : Int32)) hx hb dX11_nearest_23 (by decide) ?_
      refine lv_istore (lv' := [(4, .int (0 : Int32)), (3, .int (-6 : Int32)), (0, .ref a_this), (1, .int x1), (2, .int x2)]) hx hb dX11_nearest_24 hl (by decide) rfl (fun ls hl => ?_)
      obtain ⟨q17, hq17, hf⟩ := ob_bind hf
      refine wl_X11_nearest_26 C FU (-6 : Int32) (0 : Int32) v_breachGroup _ _ _ _ hq17 (fun H locs ls hP hD hS hl => ?_) hP hD hS (lv_sub hl [2, 3, 4, 1, 0] rfl)
      refine lv_iload_n hx hb dX11_nearest_93 rfl (lv_at hl 0 rfl) ?_
      obtain rfl := Option.some.inj hf
      exact hret _ _ _ _ dX11_nearest_94 hP hD hS
    · have hf := ob_pos c4 hf
      refine lv_bipush (v := (-2 : Int32)) hx hb dX11_nearest_17 (by decide) ?_
      obtain rfl := Option.some.inj hf
      exact hret _ _ _ _ dX11_nearest_19 hP hD hS
  · have hf := ob_pos c2 hf
    refine lv_iconst (v := (-1 : Int32)) hx hb dX11_nearest_7 (by decide) ?_
    obtain rfl := Option.some.inj hf
    exact hret _ _ _ _ dX11_nearest_8 hP hD hS
abbrev rm_X11_more : Room := { frames := 4, cells := 0, slots := 0, locals := 105 }
abbrev wd_X11_more (cyI cyJ cyZ : ClassId) (a_this a_sets a_papers a_worths a_sign a_hallSign a_chosen a_upper a_lower : Nat) (v_heaps : Int32) (v_seats : Int32) (v_signs : Int32) (v_hallMany : Int32) (v_chosenSet : Int32) (v_paidSeats : Int32) (v_rhoUp : Int64) (v_rhoBy : Int64) (v_breachGroup : Int32) (v_chosen : Nat → Int32) (v_hallSign : Nat → Int32) (v_lower : Nat → Int64) (v_papers : Nat → Int32) (v_sets : Nat → Int32) (v_upper : Nat → Int64) (v_worths : Nat → Int32) : va_W := [(a_this, .inr (10, [.int v_heaps, .ref a_sets, .ref a_papers, .int v_seats, .ref a_worths, .int v_signs, .ref a_sign, .int v_hallMany, .ref a_hallSign, .ref a_chosen, .int v_chosenSet, .int v_paidSeats, .ref a_upper, .ref a_lower, .long v_rhoUp, .long v_rhoBy, .int v_breachGroup])), (a_chosen, .inl (cyI, 8, .inl v_chosen)), (a_hallSign, .inl (cyI, 40, .inl v_hallSign)), (a_lower, .inl (cyJ, 5, .inr (.inl v_lower))), (a_papers, .inl (cyI, 7, .inl v_papers)), (a_sets, .inl (cyI, 7, .inl v_sets)), (a_upper, .inl (cyJ, 35, .inr (.inl v_upper))), (a_worths, .inl (cyI, 4, .inl v_worths))]
def f_X11_more (x1 : Int32) (x2 : Int32) (v_heaps : Int32) (v_seats : Int32) (v_hallMany : Int32) (v_chosenSet : Int32) (v_paidSeats : Int32) (v_rhoUp : Int64) (v_rhoBy : Int64) (v_chosen : Nat → Int32) (v_hallSign : Nat → Int32) (v_lower : Nat → Int64) (v_papers : Nat → Int32) (v_sets : Nat → Int32) (v_upper : Nat → Int64) (v_worths : Nat → Int32) : Option (Int32 × Int32 × Int32 × Int32 × Int64 × Int64 × (Nat → Int32) × (Nat → Int64) × (Nat → Int64)) := (f_X11_isWay x1).bind (fun q1 => (if q1 = 0 then some ((-1 : Int32), v_seats, v_chosenSet, v_paidSeats, v_rhoUp, v_rhoBy, v_chosen, v_lower, v_upper) else (f_X11_in x2 (0 : Int32) (1 : Int32)).bind (fun q3 => (if q3 = 0 then some ((-2 : Int32), v_seats, v_chosenSet, v_paidSeats, v_rhoUp, v_rhoBy, v_chosen, v_lower, v_upper) else (if v_seats = (4 : Int32) then some ((-3 : Int32), v_seats, v_chosenSet, v_paidSeats, v_rhoUp, v_rhoBy, v_chosen, v_lower, v_upper) else (f_X11_layWay x1 v_heaps v_seats v_hallMany v_chosenSet v_paidSeats v_rhoUp v_rhoBy v_chosen v_hallSign v_lower v_papers v_sets v_upper v_worths).bind (fun q6 => (f_X11_layWay x1 v_heaps (v_seats + (1 : Int32)) v_hallMany q6.1 q6.2.1 q6.2.2.1 q6.2.2.2.1 q6.2.2.2.2.1 v_hallSign q6.2.2.2.2.2.1 v_papers v_sets q6.2.2.2.2.2.2 v_worths).bind (fun q7 => (if x2 = 0 then some ((q7.1 &&& (q6.1 ^^^ (-1 : Int32))), ((v_seats + (1 : Int32)) - (1 : Int32)), q7.1, q7.2.1, q7.2.2.1, q7.2.2.2.1, q7.2.2.2.2.1, q7.2.2.2.2.2.1, q7.2.2.2.2.2.2) else some ((q6.1 &&& (q7.1 ^^^ (-1 : Int32))), ((v_seats + (1 : Int32)) - (1 : Int32)), q7.1, q7.2.1, q7.2.2.1, q7.2.2.2.1, q7.2.2.2.2.1, q7.2.2.2.2.2.1, q7.2.2.2.2.2.2)))))))))
set_option maxHeartbeats 4000000 in
set_option maxRecDepth 100000 in
theorem c_X11_more (l : Launch) (D : va_G) (cyI cyJ cyZ : ClassId) (a_this a_sets a_papers a_worths a_sign a_hallSign a_chosen a_upper a_lower : Nat) (v_heaps : Int32) (v_seats : Int32) (v_signs : Int32) (v_hallMany : Int32) (v_chosenSet : Int32) (v_paidSeats : Int32) (v_rhoUp : Int64) (v_rhoBy : Int64) (v_breachGroup : Int32) (v_chosen : Nat → Int32) (v_hallSign : Nat → Int32) (v_lower : Nat → Int64) (v_papers : Nat → Int32) (v_sets : Nat → Int32) (v_upper : Nat → Int64) (v_worths : Nat → Int32) (x1 : Int32) (x2 : Int32) (q : Int32 × Int32 × Int32 × Int32 × Int64 × Int64 × (Nat → Int32) × (Nat → Int64) × (Nat → Int64)) (hf : f_X11_more x1 x2 v_heaps v_seats v_hallMany v_chosenSet v_paidSeats v_rhoUp v_rhoBy v_chosen v_hallSign v_lower v_papers v_sets v_upper v_worths = some q) : kMi l yX11_more wsX11_more rm_X11_more D (kTy cyI cyJ cyZ) [.ref a_this, .int x1, .int x2] (wd_X11_more cyI cyJ cyZ a_this a_sets a_papers a_worths a_sign a_hallSign a_chosen a_upper a_lower v_heaps v_seats v_signs v_hallMany v_chosenSet v_paidSeats v_rhoUp v_rhoBy v_breachGroup v_chosen v_hallSign v_lower v_papers v_sets v_upper v_worths) (wd_X11_more cyI cyJ cyZ a_this a_sets a_papers a_worths a_sign a_hallSign a_chosen a_upper a_lower v_heaps q.2.1 v_signs v_hallMany q.2.2.1 q.2.2.2.1 q.2.2.2.2.1 q.2.2.2.2.2.1 v_breachGroup q.2.2.2.2.2.2.1 v_hallSign q.2.2.2.2.2.2.2.1 v_papers v_sets q.2.2.2.2.2.2.2.2 v_worths) q.1 := by
  refine kMi_of (cc := cX11_more) (nL := 4) (own := RX11) (by decide) rfl rfl (Nat.le_of_ble_eq_true rfl) ?_
  intro p e s m below meth c A Q ls C hret hP hD hS hl
  have hl : lv_has ls 4 [(0, .ref a_this), (1, .int x1), (2, .int x2)] := hl
  unfold f_X11_more at hf
  obtain ⟨hx, hb, hml, hown, hts, hK, hA⟩ := id C
  have iX11 : ∀ w ∈ u_ws RX11 TX11 17, w ∈ wsX11_more := by decide +kernel
  have fl16 := hts (.fieldLink RX11 16 "FairSeatsModel" "seats" "I") (by decide +kernel)
  have fl76 := hts (.fieldLink RX11 76 "FairSeatsModel" "chosenSet" "I") (by decide +kernel)
  have cw42 := va_cwS (R := rm_X11_more) (rm := rm_X11_in) 3 hts gX11_more_X11_in rfl rfl rfl (by decide +kernel) ⟨Nat.le_of_ble_eq_true rfl, Nat.le_of_ble_eq_true rfl⟩
  have cw129 := va_cwS (R := rm_X11_more) (rm := rm_X11_isWay) 1 hts gX11_more_X11_isWay rfl rfl rfl (by decide +kernel) ⟨Nat.le_of_ble_eq_true rfl, Nat.le_of_ble_eq_true rfl⟩
  have cw132 := cwV (R := rm_X11_more) (rm := rm_X11_layWay) 1 hts gX11_more_X11_layWay rfl rfl rfl (by decide +kernel) ⟨Nat.le_of_ble_eq_true rfl, Nat.le_of_ble_eq_true rfl⟩
  refine lv_iload_n hx hb dX11_more_0 rfl (lv_at hl 1 rfl) ?_
  obtain ⟨q1, hq1, hf⟩ := ob_bind hf
  refine k_Sz (wo := (wd_X11_more cyI cyJ cyZ a_this a_sets a_papers a_worths a_sign a_hallSign a_chosen a_upper a_lower v_heaps v_seats v_signs v_hallMany v_chosenSet v_paidSeats v_rhoUp v_rhoBy v_breachGroup v_chosen v_hallSign v_lower v_papers v_sets v_upper v_worths)) (As := [.int x1]) (rest := []) C (c_X11_isWay l D cyI cyJ cyZ   x1 q1 hq1) cw129 hP hD hS [] [0, 1, 2, 3, 4, 5, 6, 7] [0, 1, 2, 3, 4, 5, 6, 7] rfl rfl rfl (by decide) rfl rfl hl.1 (Nat.le_of_ble_eq_true rfl) dX11_more_1 ⟨Nat.zero_le _, Nat.zero_le _⟩ (fun H locs zq1 hP hD hS => ?_)
  refine lv_if_ne (tgt := 9) hx hb dX11_more_4 (by decide) (fun c2 => ?_) (fun c2 => ?_)
  · have hf := ob_neg c2 hf
    refine lv_iload_n hx hb dX11_more_9 rfl (lv_at hl 2 rfl) ?_
    refine lv_iconst (v := (0 : Int32)) hx hb dX11_more_10 (by decide) ?_
    refine lv_iconst (v := (1 : Int32)) hx hb dX11_more_11 (by decide) ?_
    obtain ⟨q3, hq3, hf⟩ := ob_bind hf
    refine k_Sz (wo := (wd_X11_more cyI cyJ cyZ a_this a_sets a_papers a_worths a_sign a_hallSign a_chosen a_upper a_lower v_heaps v_seats v_signs v_hallMany v_chosenSet v_paidSeats v_rhoUp v_rhoBy v_breachGroup v_chosen v_hallSign v_lower v_papers v_sets v_upper v_worths)) (As := [.int x2, .int (0 : Int32), .int (1 : Int32)]) (rest := []) C (c_X11_in l D cyI cyJ cyZ   x2 (0 : Int32) (1 : Int32) q3 hq3) cw42 hP hD hS [] [0, 1, 2, 3, 4, 5, 6, 7] [0, 1, 2, 3, 4, 5, 6, 7] rfl rfl rfl (by decide) rfl rfl hl.1 (Nat.le_of_ble_eq_true rfl) dX11_more_12 ⟨Nat.zero_le _, Nat.zero_le _⟩ (fun H locs zq3 hP hD hS => ?_)
    refine lv_if_ne (tgt := 21) hx hb dX11_more_15 (by decide) (fun c4 => ?_) (fun c4 => ?_)
    · have hf := ob_neg c4 hf
      refine lv_aload_n hx hb dX11_more_21 rfl (lv_at hl 0 rfl) ?_
      refine va_get (D := D) (ci := 10) (v := .int v_seats) (C := RX11) (T := TX11) (N := 17) hx hb hts iX11 hown hK hP 0 rfl rfl 3 (by decide) fl16 (fun _ h9 => h9) rfl dX11_more_22 ?_
      refine lv_iconst (v := (4 : Int32)) hx hb dX11_more_25 (by decide) ?_
      refine lv_icmp_ne (tgt := 32) hx hb dX11_more_26 (by decide) (fun c5 => ?_) (fun c5 => ?_)
      · have hf := ob_neg c5 hf
        refine lv_aload_n hx hb dX11_more_32 rfl (lv_at hl 0 rfl) ?_
        refine lv_iload_n hx hb dX11_more_33 rfl (lv_at hl 1 rfl) ?_
        obtain ⟨q6, hq6, hf⟩ := ob_bind hf
        refine k_Vv (wo := (wd_X11_more cyI cyJ cyZ a_this a_sets a_papers a_worths a_sign a_hallSign a_chosen a_upper a_lower v_heaps v_seats v_signs v_hallMany q6.1 q6.2.1 q6.2.2.1 q6.2.2.2.1 v_breachGroup q6.2.2.2.2.1 v_hallSign q6.2.2.2.2.2.1 v_papers v_sets q6.2.2.2.2.2.2 v_worths)) (As := [.int x1]) (rest := []) C (c_X11_layWay l D cyI cyJ cyZ a_this a_sets a_papers a_worths a_sign a_hallSign a_chosen a_upper a_lower v_heaps v_seats v_signs v_hallMany v_chosenSet v_paidSeats v_rhoUp v_rhoBy v_breachGroup v_chosen v_hallSign v_lower v_papers v_sets v_upper v_worths x1 q6 hq6) cw132 hP hD hS [0, 1, 2, 3, 4, 5, 6, 7] [] [0, 1, 2, 3, 4, 5, 6, 7] rfl rfl rfl (by decide) 0 (ci := 10) rfl rfl rfl rfl rfl hl.1 (Nat.le_of_ble_eq_true rfl) dX11_more_34 ⟨Nat.zero_le _, Nat.zero_le _⟩ (fun H locs hP hD hS => ?_)
        refine lv_aload_n hx hb dX11_more_37 rfl (lv_at hl 0 rfl) ?_
        refine va_get (D := D) (ci := 10) (v := .int q6.1) (C := RX11) (T := TX11) (N := 17) hx hb hts iX11 hown hK hP 0 rfl rfl 10 (by decide) fl76 (fun _ h9 => h9) rfl dX11_more_38 ?_
        refine lv_istore_n (lv' := [(3, .int q6.1), (0, .ref a_this), (1, .int x1), (2, .int x2)]) hx hb dX11_more_41 rfl hl (by decide) rfl (fun ls hl => ?_)
        refine lv_aload_n hx hb dX11_more_42 rfl (lv_at hl 1 rfl) ?_
        refine lv_dup hx hb dX11_more_43 rfl ?_
        refine va_get (D := D) (ci := 10) (v := .int v_seats) (C := RX11) (T := TX11) (N := 17) hx hb hts iX11 hown hK hP 0 rfl rfl 3 (by decide) fl16 (fun _ h9 => h9) rfl dX11_more_44 ?_
        refine lv_iconst (v := (1 : Int32)) hx hb dX11_more_47 (by decide) ?_
        refine lv_iadd hx hb dX11_more_48 ?_
        refine va_put (D := D) (ci := 10) (v := .int (v_seats + (1 : Int32))) (ty := .int) (C := RX11) (T := TX11) (N := 17) hx hb hts iX11 tyX11 tyX11_ok nmX11 hown hK hP hD hS 0 rfl rfl 3 (by decide) fl16 (fun _ h9 => h9) rfl (by decide +kernel) rfl rfl (Nat.le_of_ble_eq_true rfl) dX11_more_49 (fun H locs hP hD hS => ?_)
        have hP : va_P D vwCl (wd_X11_more cyI cyJ cyZ a_this a_sets a_papers a_worths a_sign a_hallSign a_chosen a_upper a_lower v_heaps (v_seats + (1 : Int32)) v_signs v_hallMany q6.1 q6.2.1 q6.2.2.1 q6.2.2.2.1 v_breachGroup q6.2.2.2.2.1 v_hallSign q6.2.2.2.2.2.1 v_papers v_sets q6.2.2.2.2.2.2 v_worths) H := hP
        have hD : va_D A (wd_X11_more cyI cyJ cyZ a_this a_sets a_papers a_worths a_sign a_hallSign a_chosen a_upper a_lower v_heaps (v_seats + (1 : Int32)) v_signs v_hallMany q6.1 q6.2.1 q6.2.2.1 q6.2.2.2.1 v_breachGroup q6.2.2.2.2.1 v_hallSign q6.2.2.2.2.2.1 v_papers v_sets q6.2.2.2.2.2.2 v_worths) := hD
        refine lv_aload_n hx hb dX11_more_52 rfl (lv_at hl 1 rfl) ?_
        refine lv_iload_n hx hb dX11_more_53 rfl (lv_at hl 2 rfl) ?_
        obtain ⟨q7, hq7, hf⟩ := ob_bind hf
        refine k_Vv (wo := (wd_X11_more cyI cyJ cyZ a_this a_sets a_papers a_worths a_sign a_hallSign a_chosen a_upper a_lower v_heaps (v_seats + (1 : Int32)) v_signs v_hallMany q7.1 q7.2.1 q7.2.2.1 q7.2.2.2.1 v_breachGroup q7.2.2.2.2.1 v_hallSign q7.2.2.2.2.2.1 v_papers v_sets q7.2.2.2.2.2.2 v_worths)) (As := [.int x1]) (rest := []) C (c_X11_layWay l D cyI cyJ cyZ a_this a_sets a_papers a_worths a_sign a_hallSign a_chosen a_upper a_lower v_heaps (v_seats + (1 : Int32)) v_signs v_hallMany q6.1 q6.2.1 q6.2.2.1 q6.2.2.2.1 v_breachGroup q6.2.2.2.2.1 v_hallSign q6.2.2.2.2.2.1 v_papers v_sets q6.2.2.2.2.2.2 v_worths x1 q7 hq7) cw132 hP hD hS [0, 1, 2, 3, 4, 5, 6, 7] [] [0, 1, 2, 3, 4, 5, 6, 7] rfl rfl rfl (by decide) 0 (ci := 10) rfl rfl rfl rfl rfl hl.1 (Nat.le_of_ble_eq_true rfl) dX11_more_54 ⟨Nat.zero_le _, Nat.zero_le _⟩ (fun H locs hP hD hS => ?_)
        refine lv_aload_n hx hb dX11_more_57 rfl (lv_at hl 1 rfl) ?_
        refine lv_dup hx hb dX11_more_58 rfl ?_
        refine va_get (D := D) (ci := 10) (v := .int (v_seats + (1 : Int32))) (C := RX11) (T := TX11) (N := 17) hx hb hts iX11 hown hK hP 0 rfl rfl 3 (by decide) fl16 (fun _ h9 => h9) rfl dX11_more_59 ?_
        refine lv_iconst (v := (1 : Int32)) hx hb dX11_more_62 (by decide) ?_
        refine lv_isub hx hb dX11_more_63 ?_
        refine va_put (D := D) (ci := 10) (v := .int ((v_seats + (1 : Int32)) - (1 : Int32))) (ty := .int) (C := RX11) (T := TX11) (N := 17) hx hb hts iX11 tyX11 tyX11_ok nmX11 hown hK hP hD hS 0 rfl rfl 3 (by decide) fl16 (fun _ h9 => h9) rfl (by decide +kernel) rfl rfl (Nat.le_of_ble_eq_true rfl) dX11_more_64 (fun H locs hP hD hS => ?_)
        have hP : va_P D vwCl (wd_X11_more cyI cyJ cyZ a_this a_sets a_papers a_worths a_sign a_hallSign a_chosen a_upper a_lower v_heaps ((v_seats + (1 : Int32)) - (1 : Int32)) v_signs v_hallMany q7.1 q7.2.1 q7.2.2.1 q7.2.2.2.1 v_breachGroup q7.2.2.2.2.1 v_hallSign q7.2.2.2.2.2.1 v_papers v_sets q7.2.2.2.2.2.2 v_worths) H := hP
        have hD : va_D A (wd_X11_more cyI cyJ cyZ a_this a_sets a_papers a_worths a_sign a_hallSign a_chosen a_upper a_lower v_heaps ((v_seats + (1 : Int32)) - (1 : Int32)) v_signs v_hallMany q7.1 q7.2.1 q7.2.2.1 q7.2.2.2.1 v_breachGroup q7.2.2.2.2.1 v_hallSign q7.2.2.2.2.2.1 v_papers v_sets q7.2.2.2.2.2.2 v_worths) := hD
        refine lv_iload_n hx hb dX11_more_67 rfl (lv_at hl 3 rfl) ?_
        refine lv_if_ne (tgt := 82) hx hb dX11_more_68 (by decide) (fun c8 => ?_) (fun c8 => ?_)
        · have hf := ob_neg c8 hf
          refine lv_iload_n hx hb dX11_more_82 rfl (lv_at hl 0 rfl) ?_
          refine lv_aload_n hx hb dX11_more_83 rfl (lv_at hl 1 rfl) ?_
          refine va_get (D := D) (ci := 10) (v := .int q7.1) (C := RX11) (T := TX11) (N := 17) hx hb hts iX11 hown hK hP 0 rfl rfl 10 (by decide) fl76 (fun _ h9 => h9) rfl dX11_more_84 ?_
          refine lv_iconst (v := (-1 : Int32)) hx hb dX11_more_87 (by decide) ?_
          refine lv_ixor hx hb dX11_more_88 ?_
          refine lv_iand hx hb dX11_more_89 ?_
          obtain rfl := Option.some.inj hf
          exact hret _ _ _ _ dX11_more_90 hP hD hS
        · have hf := ob_pos c8 hf
          refine lv_aload_n hx hb dX11_more_71 rfl (lv_at hl 1 rfl) ?_
          refine va_get (D := D) (ci := 10) (v := .int q7.1) (C := RX11) (T := TX11) (N := 17) hx hb hts iX11 hown hK hP 0 rfl rfl 10 (by decide) fl76 (fun _ h9 => h9) rfl dX11_more_72 ?_
          refine lv_iload_n hx hb dX11_more_75 rfl (lv_at hl 0 rfl) ?_
          refine lv_iconst (v := (-1 : Int32)) hx hb dX11_more_76 (by decide) ?_
          refine lv_ixor hx hb dX11_more_77 ?_
          refine lv_iand hx hb dX11_more_78 ?_
          refine lv_goto (tgt := 90) hx hb dX11_more_79 (by decide) ?_
          obtain rfl := Option.some.inj hf
          exact hret _ _ _ _ dX11_more_90 hP hD hS
      · have hf := ob_pos c5 hf
        refine lv_bipush (v := (-3 : Int32)) hx hb dX11_more_29 (by decide) ?_
        obtain rfl := Option.some.inj hf
        exact hret _ _ _ _ dX11_more_31 hP hD hS
    · have hf := ob_pos c4 hf
      refine lv_bipush (v := (-2 : Int32)) hx hb dX11_more_18 (by decide) ?_
      obtain rfl := Option.some.inj hf
      exact hret _ _ _ _ dX11_more_20 hP hD hS
  · have hf := ob_pos c2 hf
    refine lv_iconst (v := (-1 : Int32)) hx hb dX11_more_7 (by decide) ?_
    obtain rfl := Option.some.inj hf
    exact hret _ _ _ _ dX11_more_8 hP hD hS
