abbrev rm_X11_turn : Room := { frames := 4, cells := 0, slots := 0, locals := 105 }
abbrev wd_X11_turn (cyI cyJ cyZ : ClassId) (a_this a_sets a_papers a_worths a_sign a_hallSign a_chosen a_upper a_lower : Nat) (v_heaps : Int32) (v_seats : Int32) (v_signs : Int32) (v_hallMany : Int32) (v_chosenSet : Int32) (v_paidSeats : Int32) (v_rhoUp : Int64) (v_rhoBy : Int64) (v_breachGroup : Int32) (v_chosen : Nat → Int32) (v_hallSign : Nat → Int32) (v_lower : Nat → Int64) (v_papers : Nat → Int32) (v_sets : Nat → Int32) (v_upper : Nat → Int64) (v_worths : Nat → Int32) : va_W := [(a_this, .inr (10, [.int v_heaps, .ref a_sets, .ref a_papers, .int v_seats, .ref a_worths, .int v_signs, .ref a_sign, .int v_hallMany, .ref a_hallSign, .ref a_chosen, .int v_chosenSet, .int v_paidSeats, .ref a_upper, .ref a_lower, .long v_rhoUp, .long v_rhoBy, .int v_breachGroup])), (a_chosen, .inl (cyI, 8, .inl v_chosen)), (a_hallSign, .inl (cyI, 40, .inl v_hallSign)), (a_lower, .inl (cyJ, 5, .inr (.inl v_lower))), (a_papers, .inl (cyI, 7, .inl v_papers)), (a_sets, .inl (cyI, 7, .inl v_sets)), (a_upper, .inl (cyJ, 35, .inr (.inl v_upper))), (a_worths, .inl (cyI, 4, .inl v_worths))]
def lp_X11_turn_73 (y1 : Int32) (y2 : Int32) (y3 : Int32) (y4 : Int32) (v_heaps : Int32) (v_seats : Int32) (v_hallMany : Int32) (v_hallSign : Nat → Int32) (v_worths : Nat → Int32) : Nat → Int32 → Int32 → Int32 → Int32 → Int64 → Int64 → (Nat → Int32) → (Nat → Int64) → (Nat → Int32) → (Nat → Int32) → (Nat → Int64) → Option (Int32 × Int32 × Int32 × Int64 × Int64 × (Nat → Int32) × (Nat → Int64) × (Nat → Int32) × (Nat → Int32) × (Nat → Int64))
  | 0, _, _, _, _, _, _, _, _, _, _, _ => none
  | n + 1, y5, y6, v_chosenSet, v_paidSeats, v_rhoUp, v_rhoBy, v_chosen, v_lower, v_papers, v_sets, v_upper => (if y4 < y6 then some (y5, v_chosenSet, v_paidSeats, v_rhoUp, v_rhoBy, v_chosen, v_lower, v_papers, v_sets, v_upper) else (if 0 ≤ y5 then some (y5, v_chosenSet, v_paidSeats, v_rhoUp, v_rhoBy, v_chosen, v_lower, v_papers, v_sets, v_upper) else (if ob_in y2 7 = true then (if ob_in (v_heaps - (1 : Int32)) 7 = true then (if ob_in (v_heaps - (1 : Int32)) 7 = true then (f_X11_layWay y1 v_heaps v_seats v_hallMany v_chosenSet v_paidSeats v_rhoUp v_rhoBy v_chosen v_hallSign v_lower (upd (upd v_papers y2.toNatClampNeg (y4 - y6)) (v_heaps - (1 : Int32)).toNatClampNeg y6) (upd v_sets (v_heaps - (1 : Int32)).toNatClampNeg ((1 : Int32) <<< (y3 &&& 31))) v_upper v_worths).bind (fun q16 => (f_X11_isLeft y3 q16.1).bind (fun q17 => (if q17 = 0 then lp_X11_turn_73 y1 y2 y3 y4 v_heaps v_seats v_hallMany v_hallSign v_worths n y6 (y6 + (1 : Int32)) q16.1 q16.2.1 q16.2.2.1 q16.2.2.2.1 q16.2.2.2.2.1 q16.2.2.2.2.2.1 (upd (upd v_papers y2.toNatClampNeg (y4 - y6)) (v_heaps - (1 : Int32)).toNatClampNeg y6) (upd v_sets (v_heaps - (1 : Int32)).toNatClampNeg ((1 : Int32) <<< (y3 &&& 31))) q16.2.2.2.2.2.2 else lp_X11_turn_73 y1 y2 y3 y4 v_heaps v_seats v_hallMany v_hallSign v_worths n (-6 : Int32) (y6 + (1 : Int32)) q16.1 q16.2.1 q16.2.2.1 q16.2.2.2.1 q16.2.2.2.2.1 q16.2.2.2.2.2.1 (upd (upd v_papers y2.toNatClampNeg (y4 - y6)) (v_heaps - (1 : Int32)).toNatClampNeg y6) (upd v_sets (v_heaps - (1 : Int32)).toNatClampNeg ((1 : Int32) <<< (y3 &&& 31))) q16.2.2.2.2.2.2))) else none) else none) else none)))
def f_X11_turn (x1 : Int32) (x2 : Int32) (x3 : Int32) (v_heaps : Int32) (v_seats : Int32) (v_hallMany : Int32) (v_chosenSet : Int32) (v_paidSeats : Int32) (v_rhoUp : Int64) (v_rhoBy : Int64) (v_chosen : Nat → Int32) (v_hallSign : Nat → Int32) (v_lower : Nat → Int64) (v_papers : Nat → Int32) (v_sets : Nat → Int32) (v_upper : Nat → Int64) (v_worths : Nat → Int32) : Option (Int32 × Int32 × Int32 × Int32 × Int64 × Int64 × (Nat → Int32) × (Nat → Int64) × (Nat → Int32) × (Nat → Int32) × (Nat → Int64)) := (f_X11_isWay x1).bind (fun q1 => (if q1 = 0 then some ((-1 : Int32), v_heaps, v_chosenSet, v_paidSeats, v_rhoUp, v_rhoBy, v_chosen, v_lower, v_papers, v_sets, v_upper) else (f_X11_isHeap x2 v_heaps).bind (fun q3 => (if q3 = 0 then some ((-1 : Int32), v_heaps, v_chosenSet, v_paidSeats, v_rhoUp, v_rhoBy, v_chosen, v_lower, v_papers, v_sets, v_upper) else (f_X11_in x3 (0 : Int32) (7 : Int32)).bind (fun q5 => (if q5 = 0 then some ((-1 : Int32), v_heaps, v_chosenSet, v_paidSeats, v_rhoUp, v_rhoBy, v_chosen, v_lower, v_papers, v_sets, v_upper) else (if ob_in x2 7 = true then (f_X11_layWay x1 v_heaps v_seats v_hallMany v_chosenSet v_paidSeats v_rhoUp v_rhoBy v_chosen v_hallSign v_lower v_papers v_sets v_upper v_worths).bind (fun q8 => (f_X11_isLeft x3 q8.1).bind (fun q9 => (if q9 = 0 then (lp_X11_turn_73 x1 x2 x3 (v_papers x2.toNatClampNeg) (v_heaps + (1 : Int32)) v_seats v_hallMany v_hallSign v_worths FU (0 : Int32) (1 : Int32) q8.1 q8.2.1 q8.2.2.1 q8.2.2.2.1 q8.2.2.2.2.1 q8.2.2.2.2.2.1 v_papers v_sets q8.2.2.2.2.2.2).bind (fun q19 => (if ob_in x2 7 = true then some (q19.1, ((v_heaps + (1 : Int32)) - (1 : Int32)), q19.2.1, q19.2.2.1, q19.2.2.2.1, q19.2.2.2.2.1, q19.2.2.2.2.2.1, q19.2.2.2.2.2.2.1, (upd q19.2.2.2.2.2.2.2.1 x2.toNatClampNeg (v_papers x2.toNatClampNeg)), q19.2.2.2.2.2.2.2.2.1, q19.2.2.2.2.2.2.2.2.2) else none)) else (lp_X11_turn_73 x1 x2 x3 (v_papers x2.toNatClampNeg) (v_heaps + (1 : Int32)) v_seats v_hallMany v_hallSign v_worths FU (-6 : Int32) (1 : Int32) q8.1 q8.2.1 q8.2.2.1 q8.2.2.2.1 q8.2.2.2.2.1 q8.2.2.2.2.2.1 v_papers v_sets q8.2.2.2.2.2.2).bind (fun q21 => (if ob_in x2 7 = true then some (q21.1, ((v_heaps + (1 : Int32)) - (1 : Int32)), q21.2.1, q21.2.2.1, q21.2.2.2.1, q21.2.2.2.2.1, q21.2.2.2.2.2.1, q21.2.2.2.2.2.2.1, (upd q21.2.2.2.2.2.2.2.1 x2.toNatClampNeg (v_papers x2.toNatClampNeg)), q21.2.2.2.2.2.2.2.2.1, q21.2.2.2.2.2.2.2.2.2) else none))))) else none)))))))
set_option maxHeartbeats 4000000 in
set_option maxRecDepth 100000 in
theorem wl_X11_turn_73 {p : Program} {l : Launch} {e : Env} {s : State} {m : MethodId} {args : Array Value} {below : List Frame} {meth : Method} {c : Code} {A : Nat → Prop} {Q : State → Prop} {D : va_G} {cyI cyJ cyZ : ClassId} {a_this a_sets a_papers a_worths a_sign a_hallSign a_chosen a_upper a_lower : Nat} {y1 : Int32} {y2 : Int32} {y3 : Int32} {y4 : Int32} {v_heaps : Int32} {v_seats : Int32} {v_signs : Int32} {v_hallMany : Int32} {v_breachGroup : Int32} {v_hallSign : Nat → Int32} {v_worths : Nat → Int32} (C : kC p s m args c cX11_turn 7 RX11 wsX11_turn D (kTy cyI cyJ cyZ) A) :
    ∀ (n : Nat) (y5 : Int32) (y6 : Int32) (v_chosenSet : Int32) (v_paidSeats : Int32) (v_rhoUp : Int64) (v_rhoBy : Int64) (v_chosen : Nat → Int32) (v_lower : Nat → Int64) (v_papers : Nat → Int32) (v_sets : Nat → Int32) (v_upper : Nat → Int64) (q : Int32 × Int32 × Int32 × Int64 × Int64 × (Nat → Int32) × (Nat → Int64) × (Nat → Int32) × (Nat → Int32) × (Nat → Int64)) (H : Heap) (locs : List Loc) (ls : Array Slot), lp_X11_turn_73 y1 y2 y3 y4 v_heaps v_seats v_hallMany v_hallSign v_worths n y5 y6 v_chosenSet v_paidSeats v_rhoUp v_rhoBy v_chosen v_lower v_papers v_sets v_upper = some q → (∀ (H : Heap) (locs : List Loc) (ls : Array Slot), va_P D vwCl (wd_X11_turn cyI cyJ cyZ a_this a_sets a_papers a_worths a_sign a_hallSign a_chosen a_upper a_lower v_heaps v_seats v_signs v_hallMany q.2.1 q.2.2.1 q.2.2.2.1 q.2.2.2.2.1 v_breachGroup q.2.2.2.2.2.1 v_hallSign q.2.2.2.2.2.2.1 q.2.2.2.2.2.2.2.1 q.2.2.2.2.2.2.2.2.1 q.2.2.2.2.2.2.2.2.2 v_worths) H → va_D A (wd_X11_turn cyI cyJ cyZ a_this a_sets a_papers a_worths a_sign a_hallSign a_chosen a_upper a_lower v_heaps v_seats v_signs v_hallMany q.2.1 q.2.2.1 q.2.2.2.1 q.2.2.2.2.1 v_breachGroup q.2.2.2.2.2.1 v_hallSign q.2.2.2.2.2.2.1 q.2.2.2.2.2.2.2.1 q.2.2.2.2.2.2.2.2.1 q.2.2.2.2.2.2.2.2.2 v_worths) → va_S A s.heap H locs → lv_has ls 7 [(0, .ref a_this), (2, .int y2), (4, .int y4), (5, .int q.1)] → W p l e rm_X11_turn s m args below meth c H locs 0 0 Q (F0 m 151 ls [])) → va_P D vwCl (wd_X11_turn cyI cyJ cyZ a_this a_sets a_papers a_worths a_sign a_hallSign a_chosen a_upper a_lower v_heaps v_seats v_signs v_hallMany v_chosenSet v_paidSeats v_rhoUp v_rhoBy v_breachGroup v_chosen v_hallSign v_lower v_papers v_sets v_upper v_worths) H → va_D A (wd_X11_turn cyI cyJ cyZ a_this a_sets a_papers a_worths a_sign a_hallSign a_chosen a_upper a_lower v_heaps v_seats v_signs v_hallMany v_chosenSet v_paidSeats v_rhoUp v_rhoBy v_breachGroup v_chosen v_hallSign v_lower v_papers v_sets v_upper v_worths) → va_S A s.heap H locs → lv_has ls 7 [(0, .ref a_this), (1, .int y1), (2, .int y2), (3, .int y3), (4, .int y4), (5, .int y5), (6, .int y6)] → W p l e rm_X11_turn s m args below meth c H locs 0 0 Q (F0 m 73 ls []) := by
  obtain ⟨hx, hb, hml, hown, hts, hK, hA⟩ := id C
  have iX11 : ∀ w ∈ u_ws RX11 TX11 17, w ∈ wsX11_turn := by decide +kernel
  have fl7 := hts (.fieldLink RX11 7 "FairSeatsModel" "sets" "[I") (by decide +kernel)
  have fl13 := hts (.fieldLink RX11 13 "FairSeatsModel" "papers" "[I") (by decide +kernel)
  have fl39 := hts (.fieldLink RX11 39 "FairSeatsModel" "heaps" "I") (by decide +kernel)
  have cw79 := cwV (R := rm_X11_turn) (rm := rm_X11_isLeft) 1 hts gX11_turn_X11_isLeft rfl rfl rfl (by decide +kernel) ⟨Nat.le_of_ble_eq_true rfl, Nat.le_of_ble_eq_true rfl⟩
  have cw132 := cwV (R := rm_X11_turn) (rm := rm_X11_layWay) 1 hts gX11_turn_X11_layWay rfl rfl rfl (by decide +kernel) ⟨Nat.le_of_ble_eq_true rfl, Nat.le_of_ble_eq_true rfl⟩
  intro n
  induction n with
  | zero =>
    intro y5 y6 v_chosenSet v_paidSeats v_rhoUp v_rhoBy v_chosen v_lower v_papers v_sets v_upper q H locs ls hf K hP hD hS hl
    rw [lp_X11_turn_73] at hf
    cases hf
  | succ n ih =>
    intro y5 y6 v_chosenSet v_paidSeats v_rhoUp v_rhoBy v_chosen v_lower v_papers v_sets v_upper q H locs ls hf K hP hD hS hl
    rw [lp_X11_turn_73] at hf
    refine lv_iload hx hb dX11_turn_73 (lv_at hl 6 rfl) ?_
    refine lv_iload hx hb dX11_turn_75 (lv_at hl 4 rfl) ?_
    refine lv_icmp_gt (tgt := 151) hx hb dX11_turn_77 (by decide) (fun c11 => ?_) (fun c11 => ?_)
    · have hf := ob_pos c11 hf
      obtain rfl := Option.some.inj hf
      exact K _ _ _ hP hD hS (lv_sub hl [0, 2, 4, 5] rfl)
    · have hf := ob_neg c11 hf
      refine lv_iload hx hb dX11_turn_80 (lv_at hl 5 rfl) ?_
      refine lv_if_ge (tgt := 151) hx hb dX11_turn_82 (by decide) (fun c12 => ?_) (fun c12 => ?_)
      · have hf := ob_pos c12 hf
        obtain rfl := Option.some.inj hf
        exact K _ _ _ hP hD hS (lv_sub hl [0, 2, 4, 5] rfl)
      · have hf := ob_neg c12 hf
        refine lv_aload_n hx hb dX11_turn_85 rfl (lv_at hl 0 rfl) ?_
        refine va_get (D := D) (ci := 10) (v := .ref a_papers) (C := RX11) (T := TX11) (N := 17) hx hb hts iX11 hown hK hP 0 rfl rfl 2 (by decide) fl13 (fun _ h9 => h9) rfl dX11_turn_86 ?_
        refine lv_iload_n hx hb dX11_turn_89 rfl (lv_at hl 2 rfl) ?_
        refine lv_iload hx hb dX11_turn_90 (lv_at hl 4 rfl) ?_
        refine lv_iload hx hb dX11_turn_92 (lv_at hl 6 rfl) ?_
        refine lv_isub hx hb dX11_turn_94 ?_
        obtain ⟨h13, hf⟩ := og_in hf
        refine va_iast hx hb hK hP hD hS 4 0 rfl rfl h13 dX11_turn_95 (fun H locs hP hD hS => ?_)
        have hP : va_P D vwCl (wd_X11_turn cyI cyJ cyZ a_this a_sets a_papers a_worths a_sign a_hallSign a_chosen a_upper a_lower v_heaps v_seats v_signs v_hallMany v_chosenSet v_paidSeats v_rhoUp v_rhoBy v_breachGroup v_chosen v_hallSign v_lower (upd v_papers y2.toNatClampNeg (y4 - y6)) v_sets v_upper v_worths) H := hP
        have hD : va_D A (wd_X11_turn cyI cyJ cyZ a_this a_sets a_papers a_worths a_sign a_hallSign a_chosen a_upper a_lower v_heaps v_seats v_signs v_hallMany v_chosenSet v_paidSeats v_rhoUp v_rhoBy v_breachGroup v_chosen v_hallSign v_lower (upd v_papers y2.toNatClampNeg (y4 - y6)) v_sets v_upper v_worths) := hD
        refine lv_aload_n hx hb dX11_turn_96 rfl (lv_at hl 0 rfl) ?_
        refine va_get (D := D) (ci := 10) (v := .ref a_sets) (C := RX11) (T := TX11) (N := 17) hx hb hts iX11 hown hK hP 0 rfl rfl 1 (by decide) fl7 (fun _ h9 => h9) rfl dX11_turn_97 ?_
        refine lv_aload_n hx hb dX11_turn_100 rfl (lv_at hl 0 rfl) ?_
        refine va_get (D := D) (ci := 10) (v := .int v_heaps) (C := RX11) (T := TX11) (N := 17) hx hb hts iX11 hown hK hP 0 rfl rfl 0 (by decide) fl39 (fun _ h9 => h9) rfl dX11_turn_101 ?_
        refine lv_iconst (v := (1 : Int32)) hx hb dX11_turn_104 (by decide) ?_
        refine lv_isub hx hb dX11_turn_105 ?_
        refine lv_iconst (v := (1 : Int32)) hx hb dX11_turn_106 (by decide) ?_
        refine lv_iload_n hx hb dX11_turn_107 rfl (lv_at hl 3 rfl) ?_
        refine lv_ishl hx hb dX11_turn_108 ?_
        obtain ⟨h14, hf⟩ := og_in hf
        refine va_iast hx hb hK hP hD hS 5 0 rfl rfl h14 dX11_turn_109 (fun H locs hP hD hS => ?_)
        have hP : va_P D vwCl (wd_X11_turn cyI cyJ cyZ a_this a_sets a_papers a_worths a_sign a_hallSign a_chosen a_upper a_lower v_heaps v_seats v_signs v_hallMany v_chosenSet v_paidSeats v_rhoUp v_rhoBy v_breachGroup v_chosen v_hallSign v_lower (upd v_papers y2.toNatClampNeg (y4 - y6)) (upd v_sets (v_heaps - (1 : Int32)).toNatClampNeg ((1 : Int32) <<< (y3 &&& 31))) v_upper v_worths) H := hP
        have hD : va_D A (wd_X11_turn cyI cyJ cyZ a_this a_sets a_papers a_worths a_sign a_hallSign a_chosen a_upper a_lower v_heaps v_seats v_signs v_hallMany v_chosenSet v_paidSeats v_rhoUp v_rhoBy v_breachGroup v_chosen v_hallSign v_lower (upd v_papers y2.toNatClampNeg (y4 - y6)) (upd v_sets (v_heaps - (1 : Int32)).toNatClampNeg ((1 : Int32) <<< (y3 &&& 31))) v_upper v_worths) := hD
        refine lv_aload_n hx hb dX11_turn_110 rfl (lv_at hl 0 rfl) ?_
        refine va_get (D := D) (ci := 10) (v := .ref a_papers) (C := RX11) (T := TX11) (N := 17) hx hb hts iX11 hown hK hP 0 rfl rfl 2 (by decide) fl13 (fun _ h9 => h9) rfl dX11_turn_111 ?_
        refine lv_aload_n hx hb dX11_turn_114 rfl (lv_at hl 0 rfl) ?_
        refine va_get (D := D) (ci := 10) (v := .int v_heaps) (C := RX11) (T := TX11) (N := 17) hx hb hts iX11 hown hK hP 0 rfl rfl 0 (by decide) fl39 (fun _ h9 => h9) rfl dX11_turn_115 ?_
        refine lv_iconst (v := (1 : Int32)) hx hb dX11_turn_118 (by decide) ?_
        refine lv_isub hx hb dX11_turn_119 ?_
        refine lv_iload hx hb dX11_turn_120 (lv_at hl 6 rfl) ?_
        obtain ⟨h15, hf⟩ := og_in hf
        refine va_iast hx hb hK hP hD hS 4 0 rfl rfl h15 dX11_turn_122 (fun H locs hP hD hS => ?_)
        have hP : va_P D vwCl (wd_X11_turn cyI cyJ cyZ a_this a_sets a_papers a_worths a_sign a_hallSign a_chosen a_upper a_lower v_heaps v_seats v_signs v_hallMany v_chosenSet v_paidSeats v_rhoUp v_rhoBy v_breachGroup v_chosen v_hallSign v_lower (upd (upd v_papers y2.toNatClampNeg (y4 - y6)) (v_heaps - (1 : Int32)).toNatClampNeg y6) (upd v_sets (v_heaps - (1 : Int32)).toNatClampNeg ((1 : Int32) <<< (y3 &&& 31))) v_upper v_worths) H := hP
        have hD : va_D A (wd_X11_turn cyI cyJ cyZ a_this a_sets a_papers a_worths a_sign a_hallSign a_chosen a_upper a_lower v_heaps v_seats v_signs v_hallMany v_chosenSet v_paidSeats v_rhoUp v_rhoBy v_breachGroup v_chosen v_hallSign v_lower (upd (upd v_papers y2.toNatClampNeg (y4 - y6)) (v_heaps - (1 : Int32)).toNatClampNeg y6) (upd v_sets (v_heaps - (1 : Int32)).toNatClampNeg ((1 : Int32) <<< (y3 &&& 31))) v_upper v_worths) := hD
        refine lv_aload_n hx hb dX11_turn_123 rfl (lv_at hl 0 rfl) ?_
        refine lv_iload_n hx hb dX11_turn_124 rfl (lv_at hl 1 rfl) ?_
        obtain ⟨q16, hq16, hf⟩ := ob_bind hf
        refine k_Vv (wo := (wd_X11_turn cyI cyJ cyZ a_this a_sets a_papers a_worths a_sign a_hallSign a_chosen a_upper a_lower v_heaps v_seats v_signs v_hallMany q16.1 q16.2.1 q16.2.2.1 q16.2.2.2.1 v_breachGroup q16.2.2.2.2.1 v_hallSign q16.2.2.2.2.2.1 (upd (upd v_papers y2.toNatClampNeg (y4 - y6)) (v_heaps - (1 : Int32)).toNatClampNeg y6) (upd v_sets (v_heaps - (1 : Int32)).toNatClampNeg ((1 : Int32) <<< (y3 &&& 31))) q16.2.2.2.2.2.2 v_worths)) (As := [.int y1]) (rest := []) C (c_X11_layWay l D cyI cyJ cyZ a_this a_sets a_papers a_worths a_sign a_hallSign a_chosen a_upper a_lower v_heaps v_seats v_signs v_hallMany v_chosenSet v_paidSeats v_rhoUp v_rhoBy v_breachGroup v_chosen v_hallSign v_lower (upd (upd v_papers y2.toNatClampNeg (y4 - y6)) (v_heaps - (1 : Int32)).toNatClampNeg y6) (upd v_sets (v_heaps - (1 : Int32)).toNatClampNeg ((1 : Int32) <<< (y3 &&& 31))) v_upper v_worths y1 q16 hq16) cw132 hP hD hS [0, 1, 2, 3, 4, 5, 6, 7] [] [0, 1, 2, 3, 4, 5, 6, 7] rfl rfl rfl (by decide) 0 (ci := 10) rfl rfl rfl rfl rfl hl.1 (Nat.le_of_ble_eq_true rfl) dX11_turn_125 ⟨Nat.zero_le _, Nat.zero_le _⟩ (fun H locs hP hD hS => ?_)
        refine lv_aload_n hx hb dX11_turn_128 rfl (lv_at hl 0 rfl) ?_
        refine lv_iload_n hx hb dX11_turn_129 rfl (lv_at hl 3 rfl) ?_
        obtain ⟨q17, hq17, hf⟩ := ob_bind hf
        refine k_Vz (wo := (wd_X11_turn cyI cyJ cyZ a_this a_sets a_papers a_worths a_sign a_hallSign a_chosen a_upper a_lower v_heaps v_seats v_signs v_hallMany q16.1 q16.2.1 q16.2.2.1 q16.2.2.2.1 v_breachGroup q16.2.2.2.2.1 v_hallSign q16.2.2.2.2.2.1 (upd (upd v_papers y2.toNatClampNeg (y4 - y6)) (v_heaps - (1 : Int32)).toNatClampNeg y6) (upd v_sets (v_heaps - (1 : Int32)).toNatClampNeg ((1 : Int32) <<< (y3 &&& 31))) q16.2.2.2.2.2.2 v_worths)) (As := [.int y3]) (rest := []) C (c_X11_isLeft l D cyI cyJ cyZ a_this a_sets a_papers a_worths a_sign a_hallSign a_chosen a_upper a_lower v_heaps v_seats v_signs v_hallMany q16.1 q16.2.1 q16.2.2.1 q16.2.2.2.1 v_breachGroup y3 q17 hq17) cw79 hP hD hS [0] [1, 2, 3, 4, 5, 6, 7] [7, 0, 1, 2, 3, 4, 5, 6] rfl rfl rfl (by decide) 0 (ci := 10) rfl rfl rfl rfl rfl hl.1 (Nat.le_of_ble_eq_true rfl) dX11_turn_130 ⟨Nat.zero_le _, Nat.zero_le _⟩ (fun H locs zq17 hP hD hS => ?_)
        refine lv_if_eq (tgt := 141) hx hb dX11_turn_133 (by decide) (fun c18 => ?_) (fun c18 => ?_)
        · have hf := ob_pos c18 hf
          refine lv_iload hx hb dX11_turn_141 (lv_at hl 6 rfl) ?_
          refine lv_istore (lv' := [(5, .int y6), (0, .ref a_this), (1, .int y1), (2, .int y2), (3, .int y3), (4, .int y4), (6, .int y6)]) hx hb dX11_turn_143 hl (by decide) rfl (fun ls hl => ?_)
          refine lv_iinc (v := (y6 + (1 : Int32))) (lv' := [(6, .int (y6 + (1 : Int32))), (5, .int y6), (0, .ref a_this), (1, .int y1), (2, .int y2), (3, .int y3), (4, .int y4)]) hx hb dX11_turn_145 hl (k := 6) rfl rfl (by decide) rfl (fun ls hl => ?_)
          refine lv_goto (tgt := 73) hx hb dX11_turn_148 (by decide) ?_
          exact ih y6 (y6 + (1 : Int32)) q16.1 q16.2.1 q16.2.2.1 q16.2.2.2.1 q16.2.2.2.2.1 q16.2.2.2.2.2.1 (upd (upd v_papers y2.toNatClampNeg (y4 - y6)) (v_heaps - (1 : Int32)).toNatClampNeg y6) (upd v_sets (v_heaps - (1 : Int32)).toNatClampNeg ((1 : Int32) <<< (y3 &&& 31))) q16.2.2.2.2.2.2 _ _ _ _ hf K hP hD hS (lv_sub hl [2, 3, 4, 5, 6, 1, 0] rfl)
        · have hf := ob_neg c18 hf
          refine lv_bipush (v := (-6 : Int32)) hx hb dX11_turn_136 (by decide) ?_
          refine lv_goto (tgt := 143) hx hb dX11_turn_138 (by decide) ?_
          refine lv_istore (lv' := [(5, .int (-6 : Int32)), (0, .ref a_this), (1, .int y1), (2, .int y2), (3, .int y3), (4, .int y4), (6, .int y6)]) hx hb dX11_turn_143 hl (by decide) rfl (fun ls hl => ?_)
          refine lv_iinc (v := (y6 + (1 : Int32))) (lv' := [(6, .int (y6 + (1 : Int32))), (5, .int (-6 : Int32)), (0, .ref a_this), (1, .int y1), (2, .int y2), (3, .int y3), (4, .int y4)]) hx hb dX11_turn_145 hl (k := 6) rfl rfl (by decide) rfl (fun ls hl => ?_)
          refine lv_goto (tgt := 73) hx hb dX11_turn_148 (by decide) ?_
          exact ih (-6 : Int32) (y6 + (1 : Int32)) q16.1 q16.2.1 q16.2.2.1 q16.2.2.2.1 q16.2.2.2.2.1 q16.2.2.2.2.2.1 (upd (upd v_papers y2.toNatClampNeg (y4 - y6)) (v_heaps - (1 : Int32)).toNatClampNeg y6) (upd v_sets (v_heaps - (1 : Int32)).toNatClampNeg ((1 : Int32) <<< (y3 &&& 31))) q16.2.2.2.2.2.2 _ _ _ _ hf K hP hD hS (lv_sub hl [2, 3, 4, 5, 6, 1, 0] rfl)
set_option maxHeartbeats 4000000 in
set_option maxRecDepth 100000 in
theorem c_X11_turn (l : Launch) (D : va_G) (cyI cyJ cyZ : ClassId) (a_this a_sets a_papers a_worths a_sign a_hallSign a_chosen a_upper a_lower : Nat) (v_heaps : Int32) (v_seats : Int32) (v_signs : Int32) (v_hallMany : Int32) (v_chosenSet : Int32) (v_paidSeats : Int32) (v_rhoUp : Int64) (v_rhoBy : Int64) (v_breachGroup : Int32) (v_chosen : Nat → Int32) (v_hallSign : Nat → Int32) (v_lower : Nat → Int64) (v_papers : Nat → Int32) (v_sets : Nat → Int32) (v_upper : Nat → Int64) (v_worths : Nat → Int32) (x1 : Int32) (x2 : Int32) (x3 : Int32) (q : Int32 × Int32 × Int32 × Int32 × Int64 × Int64 × (Nat → Int32) × (Nat → Int64) × (Nat → Int32) × (Nat → Int32) × (Nat → Int64)) (hf : f_X11_turn x1 x2 x3 v_heaps v_seats v_hallMany v_chosenSet v_paidSeats v_rhoUp v_rhoBy v_chosen v_hallSign v_lower v_papers v_sets v_upper v_worths = some q) : kMi l yX11_turn wsX11_turn rm_X11_turn D (kTy cyI cyJ cyZ) [.ref a_this, .int x1, .int x2, .int x3] (wd_X11_turn cyI cyJ cyZ a_this a_sets a_papers a_worths a_sign a_hallSign a_chosen a_upper a_lower v_heaps v_seats v_signs v_hallMany v_chosenSet v_paidSeats v_rhoUp v_rhoBy v_breachGroup v_chosen v_hallSign v_lower v_papers v_sets v_upper v_worths) (wd_X11_turn cyI cyJ cyZ a_this a_sets a_papers a_worths a_sign a_hallSign a_chosen a_upper a_lower q.2.1 v_seats v_signs v_hallMany q.2.2.1 q.2.2.2.1 q.2.2.2.2.1 q.2.2.2.2.2.1 v_breachGroup q.2.2.2.2.2.2.1 v_hallSign q.2.2.2.2.2.2.2.1 q.2.2.2.2.2.2.2.2.1 q.2.2.2.2.2.2.2.2.2.1 q.2.2.2.2.2.2.2.2.2.2 v_worths) q.1 := by
  refine kMi_of (cc := cX11_turn) (nL := 7) (own := RX11) (by decide) rfl rfl (Nat.le_of_ble_eq_true rfl) ?_
  intro p e s m below meth c A Q ls C hret hP hD hS hl
  have hl : lv_has ls 7 [(0, .ref a_this), (1, .int x1), (2, .int x2), (3, .int x3)] := hl
  unfold f_X11_turn at hf
  obtain ⟨hx, hb, hml, hown, hts, hK, hA⟩ := id C
  have iX11 : ∀ w ∈ u_ws RX11 TX11 17, w ∈ wsX11_turn := by decide +kernel
  have fl13 := hts (.fieldLink RX11 13 "FairSeatsModel" "papers" "[I") (by decide +kernel)
  have fl39 := hts (.fieldLink RX11 39 "FairSeatsModel" "heaps" "I") (by decide +kernel)
  have cw42 := va_cwS (R := rm_X11_turn) (rm := rm_X11_in) 3 hts gX11_turn_X11_in rfl rfl rfl (by decide +kernel) ⟨Nat.le_of_ble_eq_true rfl, Nat.le_of_ble_eq_true rfl⟩
  have cw46 := cwV (R := rm_X11_turn) (rm := rm_X11_isHeap) 1 hts gX11_turn_X11_isHeap rfl rfl rfl (by decide +kernel) ⟨Nat.le_of_ble_eq_true rfl, Nat.le_of_ble_eq_true rfl⟩
  have cw79 := cwV (R := rm_X11_turn) (rm := rm_X11_isLeft) 1 hts gX11_turn_X11_isLeft rfl rfl rfl (by decide +kernel) ⟨Nat.le_of_ble_eq_true rfl, Nat.le_of_ble_eq_true rfl⟩
  have cw129 := va_cwS (R := rm_X11_turn) (rm := rm_X11_isWay) 1 hts gX11_turn_X11_isWay rfl rfl rfl (by decide +kernel) ⟨Nat.le_of_ble_eq_true rfl, Nat.le_of_ble_eq_true rfl⟩
  have cw132 := cwV (R := rm_X11_turn) (rm := rm_X11_layWay) 1 hts gX11_turn_X11_layWay rfl rfl rfl (by decide +kernel) ⟨Nat.le_of_ble_eq_true rfl, Nat.le_of_ble_eq_true rfl⟩
  refine lv_iload_n hx hb dX11_turn_0 rfl (lv_at hl 1 rfl) ?_
  obtain ⟨q1, hq1, hf⟩ := ob_bind hf
  refine k_Sz (wo := (wd_X11_turn cyI cyJ cyZ a_this a_sets a_papers a_worths a_sign a_hallSign a_chosen a_upper a_lower v_heaps v_seats v_signs v_hallMany v_chosenSet v_paidSeats v_rhoUp v_rhoBy v_breachGroup v_chosen v_hallSign v_lower v_papers v_sets v_upper v_worths)) (As := [.int x1]) (rest := []) C (c_X11_isWay l D cyI cyJ cyZ   x1 q1 hq1) cw129 hP hD hS [] [0, 1, 2, 3, 4, 5, 6, 7] [0, 1, 2, 3, 4, 5, 6, 7] rfl rfl rfl (by decide) rfl rfl hl.1 (Nat.le_of_ble_eq_true rfl) dX11_turn_1 ⟨Nat.zero_le _, Nat.zero_le _⟩ (fun H locs zq1 hP hD hS => ?_)
  refine lv_if_eq (tgt := 25) hx hb dX11_turn_4 (by decide) (fun c2 => ?_) (fun c2 => ?_)
  · have hf := ob_pos c2 hf
    refine lv_iconst (v := (-1 : Int32)) hx hb dX11_turn_25 (by decide) ?_
    obtain rfl := Option.some.inj hf
    exact hret _ _ _ _ dX11_turn_26 hP hD hS
  · have hf := ob_neg c2 hf
    refine lv_aload_n hx hb dX11_turn_7 rfl (lv_at hl 0 rfl) ?_
    refine lv_iload_n hx hb dX11_turn_8 rfl (lv_at hl 2 rfl) ?_
    obtain ⟨q3, hq3, hf⟩ := ob_bind hf
    refine k_Vz (wo := (wd_X11_turn cyI cyJ cyZ a_this a_sets a_papers a_worths a_sign a_hallSign a_chosen a_upper a_lower v_heaps v_seats v_signs v_hallMany v_chosenSet v_paidSeats v_rhoUp v_rhoBy v_breachGroup v_chosen v_hallSign v_lower v_papers v_sets v_upper v_worths)) (As := [.int x2]) (rest := []) C (c_X11_isHeap l D cyI cyJ cyZ a_this a_sets a_papers a_worths a_sign a_hallSign a_chosen a_upper a_lower v_heaps v_seats v_signs v_hallMany v_chosenSet v_paidSeats v_rhoUp v_rhoBy v_breachGroup x2 q3 hq3) cw46 hP hD hS [0] [1, 2, 3, 4, 5, 6, 7] [7, 0, 1, 2, 3, 4, 5, 6] rfl rfl rfl (by decide) 0 (ci := 10) rfl rfl rfl rfl rfl hl.1 (Nat.le_of_ble_eq_true rfl) dX11_turn_9 ⟨Nat.zero_le _, Nat.zero_le _⟩ (fun H locs zq3 hP hD hS => ?_)
    refine lv_if_eq (tgt := 25) hx hb dX11_turn_12 (by decide) (fun c4 => ?_) (fun c4 => ?_)
    · have hf := ob_pos c4 hf
      refine lv_iconst (v := (-1 : Int32)) hx hb dX11_turn_25 (by decide) ?_
      obtain rfl := Option.some.inj hf
      exact hret _ _ _ _ dX11_turn_26 hP hD hS
    · have hf := ob_neg c4 hf
      refine lv_iload_n hx hb dX11_turn_15 rfl (lv_at hl 3 rfl) ?_
      refine lv_iconst (v := (0 : Int32)) hx hb dX11_turn_16 (by decide) ?_
      refine lv_bipush (v := (7 : Int32)) hx hb dX11_turn_17 (by decide) ?_
      obtain ⟨q5, hq5, hf⟩ := ob_bind hf
      refine k_Sz (wo := (wd_X11_turn cyI cyJ cyZ a_this a_sets a_papers a_worths a_sign a_hallSign a_chosen a_upper a_lower v_heaps v_seats v_signs v_hallMany v_chosenSet v_paidSeats v_rhoUp v_rhoBy v_breachGroup v_chosen v_hallSign v_lower v_papers v_sets v_upper v_worths)) (As := [.int x3, .int (0 : Int32), .int (7 : Int32)]) (rest := []) C (c_X11_in l D cyI cyJ cyZ   x3 (0 : Int32) (7 : Int32) q5 hq5) cw42 hP hD hS [] [0, 1, 2, 3, 4, 5, 6, 7] [0, 1, 2, 3, 4, 5, 6, 7] rfl rfl rfl (by decide) rfl rfl hl.1 (Nat.le_of_ble_eq_true rfl) dX11_turn_19 ⟨Nat.zero_le _, Nat.zero_le _⟩ (fun H locs zq5 hP hD hS => ?_)
      refine lv_if_ne (tgt := 27) hx hb dX11_turn_22 (by decide) (fun c6 => ?_) (fun c6 => ?_)
      · have hf := ob_neg c6 hf
        refine lv_aload_n hx hb dX11_turn_27 rfl (lv_at hl 0 rfl) ?_
        refine va_get (D := D) (ci := 10) (v := .ref a_papers) (C := RX11) (T := TX11) (N := 17) hx hb hts iX11 hown hK hP 0 rfl rfl 2 (by decide) fl13 (fun _ h9 => h9) rfl dX11_turn_28 ?_
        refine lv_iload_n hx hb dX11_turn_31 rfl (lv_at hl 2 rfl) ?_
        obtain ⟨h7, hf⟩ := og_in hf
        refine va_iald hx hb hK hP 4 0 rfl rfl h7 dX11_turn_32 ?_
        refine lv_istore (lv' := [(4, .int (v_papers x2.toNatClampNeg)), (0, .ref a_this), (1, .int x1), (2, .int x2), (3, .int x3)]) hx hb dX11_turn_33 hl (by decide) rfl (fun ls hl => ?_)
        refine lv_bipush (v := (-6 : Int32)) hx hb dX11_turn_35 (by decide) ?_
        refine lv_istore (lv' := [(5, .int (-6 : Int32)), (4, .int (v_papers x2.toNatClampNeg)), (0, .ref a_this), (1, .int x1), (2, .int x2), (3, .int x3)]) hx hb dX11_turn_37 hl (by decide) rfl (fun ls hl => ?_)
        refine lv_aload_n hx hb dX11_turn_39 rfl (lv_at hl 2 rfl) ?_
        refine lv_iload_n hx hb dX11_turn_40 rfl (lv_at hl 3 rfl) ?_
        obtain ⟨q8, hq8, hf⟩ := ob_bind hf
        refine k_Vv (wo := (wd_X11_turn cyI cyJ cyZ a_this a_sets a_papers a_worths a_sign a_hallSign a_chosen a_upper a_lower v_heaps v_seats v_signs v_hallMany q8.1 q8.2.1 q8.2.2.1 q8.2.2.2.1 v_breachGroup q8.2.2.2.2.1 v_hallSign q8.2.2.2.2.2.1 v_papers v_sets q8.2.2.2.2.2.2 v_worths)) (As := [.int x1]) (rest := []) C (c_X11_layWay l D cyI cyJ cyZ a_this a_sets a_papers a_worths a_sign a_hallSign a_chosen a_upper a_lower v_heaps v_seats v_signs v_hallMany v_chosenSet v_paidSeats v_rhoUp v_rhoBy v_breachGroup v_chosen v_hallSign v_lower v_papers v_sets v_upper v_worths x1 q8 hq8) cw132 hP hD hS [0, 1, 2, 3, 4, 5, 6, 7] [] [0, 1, 2, 3, 4, 5, 6, 7] rfl rfl rfl (by decide) 0 (ci := 10) rfl rfl rfl rfl rfl hl.1 (Nat.le_of_ble_eq_true rfl) dX11_turn_41 ⟨Nat.zero_le _, Nat.zero_le _⟩ (fun H locs hP hD hS => ?_)
        refine lv_aload_n hx hb dX11_turn_44 rfl (lv_at hl 2 rfl) ?_
        refine lv_iload_n hx hb dX11_turn_45 rfl (lv_at hl 5 rfl) ?_
        obtain ⟨q9, hq9, hf⟩ := ob_bind hf
        refine k_Vz (wo := (wd_X11_turn cyI cyJ cyZ a_this a_sets a_papers a_worths a_sign a_hallSign a_chosen a_upper a_lower v_heaps v_seats v_signs v_hallMany q8.1 q8.2.1 q8.2.2.1 q8.2.2.2.1 v_breachGroup q8.2.2.2.2.1 v_hallSign q8.2.2.2.2.2.1 v_papers v_sets q8.2.2.2.2.2.2 v_worths)) (As := [.int x3]) (rest := []) C (c_X11_isLeft l D cyI cyJ cyZ a_this a_sets a_papers a_worths a_sign a_hallSign a_chosen a_upper a_lower v_heaps v_seats v_signs v_hallMany q8.1 q8.2.1 q8.2.2.1 q8.2.2.2.1 v_breachGroup x3 q9 hq9) cw79 hP hD hS [0] [1, 2, 3, 4, 5, 6, 7] [7, 0, 1, 2, 3, 4, 5, 6] rfl rfl rfl (by decide) 0 (ci := 10) rfl rfl rfl rfl rfl hl.1 (Nat.le_of_ble_eq_true rfl) dX11_turn_46 ⟨Nat.zero_le _, Nat.zero_le _⟩ (fun H locs zq9 hP hD hS => ?_)
        refine lv_if_eq (tgt := 57) hx hb dX11_turn_49 (by decide) (fun c10 => ?_) (fun c10 => ?_)
        · have hf := ob_pos c10 hf
          refine lv_iconst (v := (0 : Int32)) hx hb dX11_turn_57 (by decide) ?_
          refine lv_istore (lv' := [(5, .int (0 : Int32)), (4, .int (v_papers x2.toNatClampNeg)), (0, .ref a_this), (1, .int x1), (2, .int x2), (3, .int x3)]) hx hb dX11_turn_58 hl (by decide) rfl (fun ls hl => ?_)
          refine lv_aload_n hx hb dX11_turn_60 rfl (lv_at hl 2 rfl) ?_
          refine lv_dup hx hb dX11_turn_61 rfl ?_
          refine va_get (D := D) (ci := 10) (v := .int v_heaps) (C := RX11) (T := TX11) (N := 17) hx hb hts iX11 hown hK hP 0 rfl rfl 0 (by decide) fl39 (fun _ h9 => h9) rfl dX11_turn_62 ?_
          refine lv_iconst (v := (1 : Int32)) hx hb dX11_turn_65 (by decide) ?_
          refine lv_iadd hx hb dX11_turn_66 ?_
          refine va_put (D := D) (ci := 10) (v := .int (v_heaps + (1 : Int32))) (ty := .int) (C := RX11) (T := TX11) (N := 17) hx hb hts iX11 tyX11 tyX11_ok nmX11 hown hK hP hD hS 0 rfl rfl 0 (by decide) fl39 (fun _ h9 => h9) rfl (by decide +kernel) rfl rfl (Nat.le_of_ble_eq_true rfl) dX11_turn_67 (fun H locs hP hD hS => ?_)
          have hP : va_P D vwCl (wd_X11_turn cyI cyJ cyZ a_this a_sets a_papers a_worths a_sign a_hallSign a_chosen a_upper a_lower (v_heaps + (1 : Int32)) v_seats v_signs v_hallMany q8.1 q8.2.1 q8.2.2.1 q8.2.2.2.1 v_breachGroup q8.2.2.2.2.1 v_hallSign q8.2.2.2.2.2.1 v_papers v_sets q8.2.2.2.2.2.2 v_worths) H := hP
          have hD : va_D A (wd_X11_turn cyI cyJ cyZ a_this a_sets a_papers a_worths a_sign a_hallSign a_chosen a_upper a_lower (v_heaps + (1 : Int32)) v_seats v_signs v_hallMany q8.1 q8.2.1 q8.2.2.1 q8.2.2.2.1 v_breachGroup q8.2.2.2.2.1 v_hallSign q8.2.2.2.2.2.1 v_papers v_sets q8.2.2.2.2.2.2 v_worths) := hD
          refine lv_iconst (v := (1 : Int32)) hx hb dX11_turn_70 (by decide) ?_
          refine lv_istore (lv' := [(6, .int (1 : Int32)), (5, .int (0 : Int32)), (4, .int (v_papers x2.toNatClampNeg)), (0, .ref a_this), (1, .int x1), (2, .int x2), (3, .int x3)]) hx hb dX11_turn_71 hl (by decide) rfl (fun ls hl => ?_)
          obtain ⟨q19, hq19, hf⟩ := ob_bind hf
          refine wl_X11_turn_73 C FU (0 : Int32) (1 : Int32) q8.1 q8.2.1 q8.2.2.1 q8.2.2.2.1 q8.2.2.2.2.1 q8.2.2.2.2.2.1 v_papers v_sets q8.2.2.2.2.2.2 _ _ _ _ hq19 (fun H locs ls hP hD hS hl => ?_) hP hD hS (lv_sub hl [3, 4, 5, 6, 2, 1, 0] rfl)
          refine lv_aload_n hx hb dX11_turn_151 rfl (lv_at hl 0 rfl) ?_
          refine lv_dup hx hb dX11_turn_152 rfl ?_
          refine va_get (D := D) (ci := 10) (v := .int (v_heaps + (1 : Int32))) (C := RX11) (T := TX11) (N := 17) hx hb hts iX11 hown hK hP 0 rfl rfl 0 (by decide) fl39 (fun _ h9 => h9) rfl dX11_turn_153 ?_
          refine lv_iconst (v := (1 : Int32)) hx hb dX11_turn_156 (by decide) ?_
          refine lv_isub hx hb dX11_turn_157 ?_
          refine va_put (D := D) (ci := 10) (v := .int ((v_heaps + (1 : Int32)) - (1 : Int32))) (ty := .int) (C := RX11) (T := TX11) (N := 17) hx hb hts iX11 tyX11 tyX11_ok nmX11 hown hK hP hD hS 0 rfl rfl 0 (by decide) fl39 (fun _ h9 => h9) rfl (by decide +kernel) rfl rfl (Nat.le_of_ble_eq_true rfl) dX11_turn_158 (fun H locs hP hD hS => ?_)
          have hP : va_P D vwCl (wd_X11_turn cyI cyJ cyZ a_this a_sets a_papers a_worths a_sign a_hallSign a_chosen a_upper a_lower ((v_heaps + (1 : Int32)) - (1 : Int32)) v_seats v_signs v_hallMany q19.2.1 q19.2.2.1 q19.2.2.2.1 q19.2.2.2.2.1 v_breachGroup q19.2.2.2.2.2.1 v_hallSign q19.2.2.2.2.2.2.1 q19.2.2.2.2.2.2.2.1 q19.2.2.2.2.2.2.2.2.1 q19.2.2.2.2.2.2.2.2.2 v_worths) H := hP
          have hD : va_D A (wd_X11_turn cyI cyJ cyZ a_this a_sets a_papers a_worths a_sign a_hallSign a_chosen a_upper a_lower ((v_heaps + (1 : Int32)) - (1 : Int32)) v_seats v_signs v_hallMany q19.2.1 q19.2.2.1 q19.2.2.2.1 q19.2.2.2.2.1 v_breachGroup q19.2.2.2.2.2.1 v_hallSign q19.2.2.2.2.2.2.1 q19.2.2.2.2.2.2.2.1 q19.2.2.2.2.2.2.2.2.1 q19.2.2.2.2.2.2.2.2.2 v_worths) := hD
          refine lv_aload_n hx hb dX11_turn_161 rfl (lv_at hl 0 rfl) ?_
          refine va_get (D := D) (ci := 10) (v := .ref a_papers) (C := RX11) (T := TX11) (N := 17) hx hb hts iX11 hown hK hP 0 rfl rfl 2 (by decide) fl13 (fun _ h9 => h9) rfl dX11_turn_162 ?_
          refine lv_iload_n hx hb dX11_turn_165 rfl (lv_at hl 1 rfl) ?_
          refine lv_iload hx hb dX11_turn_166 (lv_at hl 2 rfl) ?_
          obtain ⟨h20, hf⟩ := og_in hf
          refine va_iast hx hb hK hP hD hS 4 0 rfl rfl h20 dX11_turn_168 (fun H locs hP hD hS => ?_)
          have hP : va_P D vwCl (wd_X11_turn cyI cyJ cyZ a_this a_sets a_papers a_worths a_sign a_hallSign a_chosen a_upper a_lower ((v_heaps + (1 : Int32)) - (1 : Int32)) v_seats v_signs v_hallMany q19.2.1 q19.2.2.1 q19.2.2.2.1 q19.2.2.2.2.1 v_breachGroup q19.2.2.2.2.2.1 v_hallSign q19.2.2.2.2.2.2.1 (upd q19.2.2.2.2.2.2.2.1 x2.toNatClampNeg (v_papers x2.toNatClampNeg)) q19.2.2.2.2.2.2.2.2.1 q19.2.2.2.2.2.2.2.2.2 v_worths) H := hP
          have hD : va_D A (wd_X11_turn cyI cyJ cyZ a_this a_sets a_papers a_worths a_sign a_hallSign a_chosen a_upper a_lower ((v_heaps + (1 : Int32)) - (1 : Int32)) v_seats v_signs v_hallMany q19.2.1 q19.2.2.1 q19.2.2.2.1 q19.2.2.2.2.1 v_breachGroup q19.2.2.2.2.2.1 v_hallSign q19.2.2.2.2.2.2.1 (upd q19.2.2.2.2.2.2.2.1 x2.toNatClampNeg (v_papers x2.toNatClampNeg)) q19.2.2.2.2.2.2.2.2.1 q19.2.2.2.2.2.2.2.2.2 v_worths) := hD
          refine lv_iload hx hb dX11_turn_169 (lv_at hl 3 rfl) ?_
          obtain rfl := Option.some.inj hf
          exact hret _ _ _ _ dX11_turn_171 hP hD hS
        · have hf := ob_neg c10 hf
          refine lv_bipush (v := (-6 : Int32)) hx hb dX11_turn_52 (by decide) ?_
          refine lv_goto (tgt := 58) hx hb dX11_turn_54 (by decide) ?_
          refine lv_istore (lv' := [(5, .int (-6 : Int32)), (4, .int (v_papers x2.toNatClampNeg)), (0, .ref a_this), (1, .int x1), (2, .int x2), (3, .int x3)]) hx hb dX11_turn_58 hl (by decide) rfl (fun ls hl => ?_)
          refine lv_aload_n hx hb dX11_turn_60 rfl (lv_at hl 2 rfl) ?_
          refine lv_dup hx hb dX11_turn_61 rfl ?_
          refine va_get (D := D) (ci := 10) (v := .int v_heaps) (C := RX11) (T := TX11) (N := 17) hx hb hts iX11 hown hK hP 0 rfl rfl 0 (by decide) fl39 (fun _ h9 => h9) rfl dX11_turn_62 ?_
          refine lv_iconst (v := (1 : Int32)) hx hb dX11_turn_65 (by decide) ?_
          refine lv_iadd hx hb dX11_turn_66 ?_
          refine va_put (D := D) (ci := 10) (v := .int (v_heaps + (1 : Int32))) (ty := .int) (C := RX11) (T := TX11) (N := 17) hx hb hts iX11 tyX11 tyX11_ok nmX11 hown hK hP hD hS 0 rfl rfl 0 (by decide) fl39 (fun _ h9 => h9) rfl (by decide +kernel) rfl rfl (Nat.le_of_ble_eq_true rfl) dX11_turn_67 (fun H locs hP hD hS => ?_)
          have hP : va_P D vwCl (wd_X11_turn cyI cyJ cyZ a_this a_sets a_papers a_worths a_sign a_hallSign a_chosen a_upper a_lower (v_heaps + (1 : Int32)) v_seats v_signs v_hallMany q8.1 q8.2.1 q8.2.2.1 q8.2.2.2.1 v_breachGroup q8.2.2.2.2.1 v_hallSign q8.2.2.2.2.2.1 v_papers v_sets q8.2.2.2.2.2.2 v_worths) H := hP
          have hD : va_D A (wd_X11_turn cyI cyJ cyZ a_this a_sets a_papers a_worths a_sign a_hallSign a_chosen a_upper a_lower (v_heaps + (1 : Int32)) v_seats v_signs v_hallMany q8.1 q8.2.1 q8.2.2.1 q8.2.2.2.1 v_breachGroup q8.2.2.2.2.1 v_hallSign q8.2.2.2.2.2.1 v_papers v_sets q8.2.2.2.2.2.2 v_worths) := hD
          refine lv_iconst (v := (1 : Int32)) hx hb dX11_turn_70 (by decide) ?_
          refine lv_istore (lv' := [(6, .int (1 : Int32)), (5, .int (-6 : Int32)), (4, .int (v_papers x2.toNatClampNeg)), (0, .ref a_this), (1, .int x1), (2, .int x2), (3, .int x3)]) hx hb dX11_turn_71 hl (by decide) rfl (fun ls hl => ?_)
          obtain ⟨q21, hq21, hf⟩ := ob_bind hf
          refine wl_X11_turn_73 C FU (-6 : Int32) (1 : Int32) q8.1 q8.2.1 q8.2.2.1 q8.2.2.2.1 q8.2.2.2.2.1 q8.2.2.2.2.2.1 v_papers v_sets q8.2.2.2.2.2.2 _ _ _ _ hq21 (fun H locs ls hP hD hS hl => ?_) hP hD hS (lv_sub hl [3, 4, 5, 6, 2, 1, 0] rfl)
          refine lv_aload_n hx hb dX11_turn_151 rfl (lv_at hl 0 rfl) ?_
          refine lv_dup hx hb dX11_turn_152 rfl ?_
          refine va_get (D := D) (ci := 10) (v := .int (v_heaps + (1 : Int32))) (C := RX11) (T := TX11) (N := 17) hx hb hts iX11 hown hK hP 0 rfl rfl 0 (by decide) fl39 (fun _ h9 => h9) rfl dX11_turn_153 ?_
          refine lv_iconst (v := (1 : Int32)) hx hb dX11_turn_156 (by decide) ?_
          refine lv_isub hx hb dX11_turn_157 ?_
          refine va_put (D := D) (ci := 10) (v := .int ((v_heaps + (1 : Int32)) - (1 : Int32))) (ty := .int) (C := RX11) (T := TX11) (N := 17) hx hb hts iX11 tyX11 tyX11_ok nmX11 hown hK hP hD hS 0 rfl rfl 0 (by decide) fl39 (fun _ h9 => h9) rfl (by decide +kernel) rfl rfl (Nat.le_of_ble_eq_true rfl) dX11_turn_158 (fun H locs hP hD hS => ?_)
          have hP : va_P D vwCl (wd_X11_turn cyI cyJ cyZ a_this a_sets a_papers a_worths a_sign a_hallSign a_chosen a_upper a_lower ((v_heaps + (1 : Int32)) - (1 : Int32)) v_seats v_signs v_hallMany q21.2.1 q21.2.2.1 q21.2.2.2.1 q21.2.2.2.2.1 v_breachGroup q21.2.2.2.2.2.1 v_hallSign q21.2.2.2.2.2.2.1 q21.2.2.2.2.2.2.2.1 q21.2.2.2.2.2.2.2.2.1 q21.2.2.2.2.2.2.2.2.2 v_worths) H := hP
          have hD : va_D A (wd_X11_turn cyI cyJ cyZ a_this a_sets a_papers a_worths a_sign a_hallSign a_chosen a_upper a_lower ((v_heaps + (1 : Int32)) - (1 : Int32)) v_seats v_signs v_hallMany q21.2.1 q21.2.2.1 q21.2.2.2.1 q21.2.2.2.2.1 v_breachGroup q21.2.2.2.2.2.1 v_hallSign q21.2.2.2.2.2.2.1 q21.2.2.2.2.2.2.2.1 q21.2.2.2.2.2.2.2.2.1 q21.2.2.2.2.2.2.2.2.2 v_worths) := hD
          refine lv_aload_n hx hb dX11_turn_161 rfl (lv_at hl 0 rfl) ?_
          refine va_get (D := D) (ci := 10) (v := .ref a_papers) (C := RX11) (T := TX11) (N := 17) hx hb hts iX11 hown hK hP 0 rfl rfl 2 (by decide) fl13 (fun _ h9 => h9) rfl dX11_turn_162 ?_
          refine lv_iload_n hx hb dX11_turn_165 rfl (lv_at hl 1 rfl) ?_
          refine lv_iload hx hb dX11_turn_166 (lv_at hl 2 rfl) ?_
          obtain ⟨h22, hf⟩ := og_in hf
          refine va_iast hx hb hK hP hD hS 4 0 rfl rfl h22 dX11_turn_168 (fun H locs hP hD hS => ?_)
          have hP : va_P D vwCl (wd_X11_turn cyI cyJ cyZ a_this a_sets a_papers a_worths a_sign a_hallSign a_chosen a_upper a_lower ((v_heaps + (1 : Int32)) - (1 : Int32)) v_seats v_signs v_hallMany q21.2.1 q21.2.2.1 q21.2.2.2.1 q21.2.2.2.2.1 v_breachGroup q21.2.2.2.2.2.1 v_hallSign q21.2.2.2.2.2.2.1 (upd q21.2.2.2.2.2.2.2.1 x2.toNatClampNeg (v_papers x2.toNatClampNeg)) q21.2.2.2.2.2.2.2.2.1 q21.2.2.2.2.2.2.2.2.2 v_worths) H := hP
          have hD : va_D A (wd_X11_turn cyI cyJ cyZ a_this a_sets a_papers a_worths a_sign a_hallSign a_chosen a_upper a_lower ((v_heaps + (1 : Int32)) - (1 : Int32)) v_seats v_signs v_hallMany q21.2.1 q21.2.2.1 q21.2.2.2.1 q21.2.2.2.2.1 v_breachGroup q21.2.2.2.2.2.1 v_hallSign q21.2.2.2.2.2.2.1 (upd q21.2.2.2.2.2.2.2.1 x2.toNatClampNeg (v_papers x2.toNatClampNeg)) q21.2.2.2.2.2.2.2.2.1 q21.2.2.2.2.2.2.2.2.2 v_worths) := hD
          refine lv_iload hx hb dX11_turn_169 (lv_at hl 3 rfl) ?_
          obtain rfl := Option.some.inj hf
          exact hret _ _ _ _ dX11_turn_171 hP hD hS
      · have hf := ob_pos c6 hf
        refine lv_iconst (v := (-1 : Int32)) hx hb dX11_turn_25 (by decide) ?_
        obtain rfl := Option.some.inj hf
        exact hret _ _ _ _ dX11_turn_26 hP hD hS
abbrev rm_X11_told : Room := { frames := 2, cells := 0, slots := 0, locals := 43 }
abbrev wd_X11_told (cyI cyJ cyZ : ClassId) (a_this a_sets a_papers a_worths a_sign a_hallSign a_chosen a_upper a_lower : Nat) (v_heaps : Int32) (v_seats : Int32) (v_signs : Int32) (v_hallMany : Int32) (v_chosenSet : Int32) (v_paidSeats : Int32) (v_rhoUp : Int64) (v_rhoBy : Int64) (v_breachGroup : Int32) (v_hallSign : Nat → Int32) (v_papers : Nat → Int32) (v_sets : Nat → Int32) (v_worths : Nat → Int32) : va_W := [(a_this, .inr (10, [.int v_heaps, .ref a_sets, .ref a_papers, .int v_seats, .ref a_worths, .int v_signs, .ref a_sign, .int v_hallMany, .ref a_hallSign, .ref a_chosen, .int v_chosenSet, .int v_paidSeats, .ref a_upper, .ref a_lower, .long v_rhoUp, .long v_rhoBy, .int v_breachGroup])), (a_hallSign, .inl (cyI, 40, .inl v_hallSign)), (a_papers, .inl (cyI, 7, .inl v_papers)), (a_sets, .inl (cyI, 7, .inl v_sets)), (a_worths, .inl (cyI, 4, .inl v_worths))]
def lp_X11_told_15 (y1 : Int32) (v_hallMany : Int32) (v_hallSign : Nat → Int32) : Nat → Int32 → Int32 → Option (Int32)
  | 0, _, _ => none
  | n + 1, y2, y3 => (if v_hallMany ≤ y3 then some y2 else (if ob_in y3 40 = true then (if (v_hallSign y3.toNatClampNeg) = (59 : Int32) then lp_X11_told_15 y1 v_hallMany v_hallSign n (y2 + (1 : Int32)) (y3 + (1 : Int32)) else lp_X11_told_15 y1 v_hallMany v_hallSign n (y2 + (0 : Int32)) (y3 + (1 : Int32))) else none))
def f_X11_told (x1 : Int32) (v_heaps : Int32) (v_seats : Int32) (v_signs : Int32) (v_hallMany : Int32) (v_hallSign : Nat → Int32) (v_papers : Nat → Int32) (v_sets : Nat → Int32) (v_worths : Nat → Int32) : Option (Int32) := (if v_hallMany ≤ 0 then (lp_X11_told_15 x1 v_hallMany v_hallSign FU (0 : Int32) (0 : Int32)).bind (fun q5 => (f_X11_in x1 (10 : Int32) (13 : Int32)).bind (fun q6 => (if q6 = 0 then (f_X11_in x1 (20 : Int32) (25 : Int32)).bind (fun q8 => (if q8 = 0 then (f_X11_in x1 (30 : Int32) (35 : Int32)).bind (fun q10 => (if q10 = 0 then (if x1 = 0 then some v_heaps else (if x1 = (1 : Int32) then (f_X11_allPapers v_heaps v_papers).bind (fun q17 => some q17) else (if x1 = (2 : Int32) then some v_seats else (if x1 = (3 : Int32) then some v_signs else (if x1 = (4 : Int32) then some q5 else some (-2 : Int32)))))) else (f_X11_isHeap (x1 - (30 : Int32)) v_heaps).bind (fun q18 => (if q18 = 0 then some (-6 : Int32) else (if ob_in (x1 - (30 : Int32)) 7 = true then some (v_sets (x1 - (30 : Int32)).toNatClampNeg) else none))))) else (f_X11_isHeap (x1 - (20 : Int32)) v_heaps).bind (fun q21 => (if q21 = 0 then some (-6 : Int32) else (if ob_in (x1 - (20 : Int32)) 7 = true then some (v_papers (x1 - (20 : Int32)).toNatClampNeg) else none))))) else (if ob_in (x1 - (10 : Int32)) 4 = true then some (v_worths (x1 - (10 : Int32)).toNatClampNeg) else none)))) else (lp_X11_told_15 x1 v_hallMany v_hallSign FU (1 : Int32) (0 : Int32)).bind (fun q25 => (f_X11_in x1 (10 : Int32) (13 : Int32)).bind (fun q26 => (if q26 = 0 then (f_X11_in x1 (20 : Int32) (25 : Int32)).bind (fun q28 => (if q28 = 0 then (f_X11_in x1 (30 : Int32) (35 : Int32)).bind (fun q30 => (if q30 = 0 then (if x1 = 0 then some v_heaps else (if x1 = (1 : Int32) then (f_X11_allPapers v_heaps v_papers).bind (fun q37 => some q37) else (if x1 = (2 : Int32) then some v_seats else (if x1 = (3 : Int32) then some v_signs else (if x1 = (4 : Int32) then some q25 else some (-2 : Int32)))))) else (f_X11_isHeap (x1 - (30 : Int32)) v_heaps).bind (fun q38 => (if q38 = 0 then some (-6 : Int32) else (if ob_in (x1 - (30 : Int32)) 7 = true then some (v_sets (x1 - (30 : Int32)).toNatClampNeg) else none))))) else (f_X11_isHeap (x1 - (20 : Int32)) v_heaps).bind (fun q41 => (if q41 = 0 then some (-6 : Int32) else (if ob_in (x1 - (20 : Int32)) 7 = true then some (v_papers (x1 - (20 : Int32)).toNatClampNeg) else none))))) else (if ob_in (x1 - (10 : Int32)) 4 = true then some (v_worths (x1 - (10 : Int32)).toNatClampNeg) else none)))))
set_option maxHeartbeats 4000000 in
set_option maxRecDepth 100000 in
theorem wl_X11_told_15 {p : Program} {l : Launch} {e : Env} {s : State} {m : MethodId} {args : Array Value} {below : List Frame} {meth : Method} {c : Code} {A : Nat → Prop} {Q : State → Prop} {D : va_G} {cyI cyJ cyZ : ClassId} {a_this a_sets a_papers a_worths a_sign a_hallSign a_chosen a_upper a_lower : Nat} {y1 : Int32} {v_heaps : Int32} {v_seats : Int32} {v_signs : Int32} {v_hallMany : Int32} {v_chosenSet : Int32} {v_paidSeats : Int32} {v_rhoUp : Int64} {v_rhoBy : Int64} {v_breachGroup : Int32} {v_hallSign : Nat → Int32} {v_papers : Nat → Int32} {v_sets : Nat → Int32} {v_worths : Nat → Int32} (C : kC p s m args c cX11_told 4 RX11 wsX11_told D (kTy cyI cyJ cyZ) A) :
    ∀ (n : Nat) (y2 : Int32) (y3 : Int32) (q : Int32) (H : Heap) (locs : List Loc) (ls : Array Slot), lp_X11_told_15 y1 v_hallMany v_hallSign n y2 y3 = some q → (∀ (H : Heap) (locs : List Loc) (ls : Array Slot), va_P D vwCl (wd_X11_told cyI cyJ cyZ a_this a_sets a_papers a_worths a_sign a_hallSign a_chosen a_upper a_lower v_heaps v_seats v_signs v_hallMany v_chosenSet v_paidSeats v_rhoUp v_rhoBy v_breachGroup v_hallSign v_papers v_sets v_worths) H → va_D A (wd_X11_told cyI cyJ cyZ a_this a_sets a_papers a_worths a_sign a_hallSign a_chosen a_upper a_lower v_heaps v_seats v_signs v_hallMany v_chosenSet v_paidSeats v_rhoUp v_rhoBy v_breachGroup v_hallSign v_papers v_sets v_worths) → va_S A s.heap H locs → lv_has ls 4 [(0, .ref a_this), (1, .int y1), (2, .int q)] → W p l e rm_X11_told s m args below meth c H locs 0 0 Q (F0 m 48 ls [])) → va_P D vwCl (wd_X11_told cyI cyJ cyZ a_this a_sets a_papers a_worths a_sign a_hallSign a_chosen a_upper a_lower v_heaps v_seats v_signs v_hallMany v_chosenSet v_paidSeats v_rhoUp v_rhoBy v_breachGroup v_hallSign v_papers v_sets v_worths) H → va_D A (wd_X11_told cyI cyJ cyZ a_this a_sets a_papers a_worths a_sign a_hallSign a_chosen a_upper a_lower v_heaps v_seats v_signs v_hallMany v_chosenSet v_paidSeats v_rhoUp v_rhoBy v_breachGroup v_hallSign v_papers v_sets v_worths) → va_S A s.heap H locs → lv_has ls 4 [(0, .ref a_this), (1, .int y1), (2, .int y2), (3, .int y3)] → W p l e rm_X11_told s m args below meth c H locs 0 0 Q (F0 m 15 ls []) := by
  obtain ⟨hx, hb, hml, hown, hts, hK, hA⟩ := id C
  have iX11 : ∀ w ∈ u_ws RX11 TX11 17, w ∈ wsX11_told := by decide +kernel
  have fl26 := hts (.fieldLink RX11 26 "FairSeatsModel" "hallSign" "[I") (by decide +kernel)
  have fl57 := hts (.fieldLink RX11 57 "FairSeatsModel" "hallMany" "I") (by decide +kernel)
  intro n
  induction n with
  | zero =>
    intro y2 y3 q H locs ls hf K hP hD hS hl
    rw [lp_X11_told_15] at hf
    cases hf
  | succ n ih =>
    intro y2 y3 q H locs ls hf K hP hD hS hl
    rw [lp_X11_told_15] at hf
    refine lv_iload_n hx hb dX11_told_15 rfl (lv_at hl 3 rfl) ?_
    refine lv_aload_n hx hb dX11_told_16 rfl (lv_at hl 0 rfl) ?_
    refine va_get (D := D) (ci := 10) (v := .int v_hallMany) (C := RX11) (T := TX11) (N := 17) hx hb hts iX11 hown hK hP 0 rfl rfl 7 (by decide) fl57 (fun _ h9 => h9) rfl dX11_told_17 ?_
    refine lv_icmp_ge (tgt := 48) hx hb dX11_told_20 (by decide) (fun c2 => ?_) (fun c2 => ?_)
    · have hf := ob_pos c2 hf
      obtain rfl := Option.some.inj hf
      exact K _ _ _ hP hD hS (lv_sub hl [0, 1, 2] rfl)
    · have hf := ob_neg c2 hf
      refine lv_iload_n hx hb dX11_told_23 rfl (lv_at hl 2 rfl) ?_
      refine lv_aload_n hx hb dX11_told_24 rfl (lv_at hl 0 rfl) ?_
      refine va_get (D := D) (ci := 10) (v := .ref a_hallSign) (C := RX11) (T := TX11) (N := 17) hx hb hts iX11 hown hK hP 0 rfl rfl 8 (by decide) fl26 (fun _ h9 => h9) rfl dX11_told_25 ?_
      refine lv_iload_n hx hb dX11_told_28 rfl (lv_at hl 3 rfl) ?_
      obtain ⟨h3, hf⟩ := og_in hf
      refine va_iald hx hb hK hP 1 0 rfl rfl h3 dX11_told_29 ?_
      refine lv_bipush (v := (59 : Int32)) hx hb dX11_told_30 (by decide) ?_
      refine lv_icmp_ne (tgt := 39) hx hb dX11_told_32 (by decide) (fun c4 => ?_) (fun c4 => ?_)
      · have hf := ob_neg c4 hf
        refine lv_iconst (v := (0 : Int32)) hx hb dX11_told_39 (by decide) ?_
        refine lv_iadd hx hb dX11_told_40 ?_
        refine lv_istore_n (lv' := [(2, .int (y2 + (0 : Int32))), (0, .ref a_this), (1, .int y1), (3, .int y3)]) hx hb dX11_told_41 rfl hl (by decide) rfl (fun ls hl => ?_)
        refine lv_iinc (v := (y3 + (1 : Int32))) (lv' := [(3, .int (y3 + (1 : Int32))), (2, .int (y2 + (0 : Int32))), (0, .ref a_this), (1, .int y1)]) hx hb dX11_told_42 hl (k := 3) rfl rfl (by decide) rfl (fun ls hl => ?_)
        refine lv_goto (tgt := 15) hx hb dX11_told_45 (by decide) ?_
        exact ih (y2 + (0 : Int32)) (y3 + (1 : Int32)) _ _ _ _ hf K hP hD hS (lv_sub hl [2, 3, 1, 0] rfl)
      · have hf := ob_pos c4 hf
        refine lv_iconst (v := (1 : Int32)) hx hb dX11_told_35 (by decide) ?_
        refine lv_goto (tgt := 40) hx hb dX11_told_36 (by decide) ?_
        refine lv_iadd hx hb dX11_told_40 ?_
        refine lv_istore_n (lv' := [(2, .int (y2 + (1 : Int32))), (0, .ref a_this), (1, .int y1), (3, .int y3)]) hx hb dX11_told_41 rfl hl (by decide) rfl (fun ls hl => ?_)
        refine lv_iinc (v := (y3 + (1 : Int32))) (lv' := [(3, .int (y3 + (1 : Int32))), (2, .int (y2 + (1 : Int32))), (0, .ref a_this), (1, .int y1)]) hx hb dX11_told_42 hl (k := 3) rfl rfl (by decide) rfl (fun ls hl => ?_)
        refine lv_goto (tgt := 15) hx hb dX11_told_45 (by decide) ?_
        exact ih (y2 + (1 : Int32)) (y3 + (1 : Int32)) _ _ _ _ hf K hP hD hS (lv_sub hl [2, 3, 1, 0] rfl)
set_option maxHeartbeats 4000000 in
set_option maxRecDepth 100000 in
theorem c_X11_told (l : Launch) (D : va_G) (cyI cyJ cyZ : ClassId) (a_this a_sets a_papers a_worths a_sign a_hallSign a_chosen a_upper a_lower : Nat) (v_heaps : Int32) (v_seats : Int32) (v_signs : Int32) (v_hallMany : Int32) (v_chosenSet : Int32) (v_paidSeats : Int32) (v_rhoUp : Int64) (v_rhoBy : Int64) (v_breachGroup : Int32) (v_hallSign : Nat → Int32) (v_papers : Nat → Int32) (v_sets : Nat → Int32) (v_worths : Nat → Int32) (x1 : Int32) (q : Int32) (hf : f_X11_told x1 v_heaps v_seats v_signs v_hallMany v_hallSign v_papers v_sets v_worths = some q) : kMi l yX11_told wsX11_told rm_X11_told D (kTy cyI cyJ cyZ) [.ref a_this, .int x1] (wd_X11_told cyI cyJ cyZ a_this a_sets a_papers a_worths a_sign a_hallSign a_chosen a_upper a_lower v_heaps v_seats v_signs v_hallMany v_chosenSet v_paidSeats v_rhoUp v_rhoBy v_breachGroup v_hallSign v_papers v_sets v_worths) (wd_X11_told cyI cyJ cyZ a_this a_sets a_papers a_worths a_sign a_hallSign a_chosen a_upper a_lower v_heaps v_seats v_signs v_hallMany v_chosenSet v_paidSeats v_rhoUp v_rhoBy v_breachGroup v_hallSign v_papers v_sets v_worths) q := by
  refine kMi_of (cc := cX11_told) (nL := 4) (own := RX11) (by decide) rfl rfl (Nat.le_of_ble_eq_true rfl) ?_
  intro p e s m below meth c A Q ls C hret hP hD hS hl
  have hl : lv_has ls 4 [(0, .ref a_this), (1, .int x1)] := hl
  unfold f_X11_told at hf
  obtain ⟨hx, hb, hml, hown, hts, hK, hA⟩ := id C
  have iX11 : ∀ w ∈ u_ws RX11 TX11 17, w ∈ wsX11_told := by decide +kernel
  have fl7 := hts (.fieldLink RX11 7 "FairSeatsModel" "sets" "[I") (by decide +kernel)
  have fl13 := hts (.fieldLink RX11 13 "FairSeatsModel" "papers" "[I") (by decide +kernel)
  have fl16 := hts (.fieldLink RX11 16 "FairSeatsModel" "seats" "I") (by decide +kernel)
  have fl20 := hts (.fieldLink RX11 20 "FairSeatsModel" "worths" "[I") (by decide +kernel)
  have fl39 := hts (.fieldLink RX11 39 "FairSeatsModel" "heaps" "I") (by decide +kernel)
  have fl50 := hts (.fieldLink RX11 50 "FairSeatsModel" "signs" "I") (by decide +kernel)
  have fl57 := hts (.fieldLink RX11 57 "FairSeatsModel" "hallMany" "I") (by decide +kernel)
  have cw42 := va_cwS (R := rm_X11_told) (rm := rm_X11_in) 3 hts gX11_told_X11_in rfl rfl rfl (by decide +kernel) ⟨Nat.le_of_ble_eq_true rfl, Nat.le_of_ble_eq_true rfl⟩
  have cw46 := cwV (R := rm_X11_told) (rm := rm_X11_isHeap) 1 hts gX11_told_X11_isHeap rfl rfl rfl (by decide +kernel) ⟨Nat.le_of_ble_eq_true rfl, Nat.le_of_ble_eq_true rfl⟩
  have cw96 := cwV (R := rm_X11_told) (rm := rm_X11_allPapers) 0 hts gX11_told_X11_allPapers rfl rfl rfl (by decide +kernel) ⟨Nat.le_of_ble_eq_true rfl, Nat.le_of_ble_eq_true rfl⟩
  refine lv_aload_n hx hb dX11_told_0 rfl (lv_at hl 0 rfl) ?_
  refine va_get (D := D) (ci := 10) (v := .int v_hallMany) (C := RX11) (T := TX11) (N := 17) hx hb hts iX11 hown hK hP 0 rfl rfl 7 (by decide) fl57 (fun _ h9 => h9) rfl dX11_told_1 ?_
  refine lv_if_le (tgt := 11) hx hb dX11_told_4 (by decide) (fun c1 => ?_) (fun c1 => ?_)
  · have hf := ob_pos c1 hf
    refine lv_iconst (v := (0 : Int32)) hx hb dX11_told_11 (by decide) ?_
    refine lv_istore_n (lv' := [(2, .int (0 : Int32)), (0, .ref a_this), (1, .int x1)]) hx hb dX11_told_12 rfl hl (by decide) rfl (fun ls hl => ?_)
    refine lv_iconst (v := (0 : Int32)) hx hb dX11_told_13 (by decide) ?_
    refine lv_istore_n (lv' := [(3, .int (0 : Int32)), (2, .int (0 : Int32)), (0, .ref a_this), (1, .int x1)]) hx hb dX11_told_14 rfl hl (by decide) rfl (fun ls hl => ?_)
    obtain ⟨q5, hq5, hf⟩ := ob_bind hf
    refine wl_X11_told_15 C FU (0 : Int32) (0 : Int32) _ _ _ _ hq5 (fun H locs ls hP hD hS hl => ?_) hP hD hS (lv_sub hl [2, 3, 1, 0] rfl)
    refine lv_iload_n hx hb dX11_told_48 rfl (lv_at hl 1 rfl) ?_
    refine lv_bipush (v := (10 : Int32)) hx hb dX11_told_49 (by decide) ?_
    refine lv_bipush (v := (13 : Int32)) hx hb dX11_told_51 (by decide) ?_
    obtain ⟨q6, hq6, hf⟩ := ob_bind hf
    refine k_Sz (wo := (wd_X11_told cyI cyJ cyZ a_this a_sets a_papers a_worths a_sign a_hallSign a_chosen a_upper a_lower v_heaps v_seats v_signs v_hallMany v_chosenSet v_paidSeats v_rhoUp v_rhoBy v_breachGroup v_hallSign v_papers v_sets v_worths)) (As := [.int x1, .int (10 : Int32), .int (13 : Int32)]) (rest := []) C (c_X11_in l D cyI cyJ cyZ   x1 (10 : Int32) (13 : Int32) q6 hq6) cw42 hP hD hS [] [0, 1, 2, 3, 4] [0, 1, 2, 3, 4] rfl rfl rfl (by decide) rfl rfl hl.1 (Nat.le_of_ble_eq_true rfl) dX11_told_53 ⟨Nat.zero_le _, Nat.zero_le _⟩ (fun H locs zq6 hP hD hS => ?_)
    refine lv_if_eq (tgt := 69) hx hb dX11_told_56 (by decide) (fun c7 => ?_) (fun c7 => ?_)
    · have hf := ob_pos c7 hf
      refine lv_iload_n hx hb dX11_told_69 rfl (lv_at hl 1 rfl) ?_
      refine lv_bipush (v := (20 : Int32)) hx hb dX11_told_70 (by decide) ?_
      refine lv_bipush (v := (25 : Int32)) hx hb dX11_told_72 (by decide) ?_
      obtain ⟨q8, hq8, hf⟩ := ob_bind hf
      refine k_Sz (wo := (wd_X11_told cyI cyJ cyZ a_this a_sets a_papers a_worths a_sign a_hallSign a_chosen a_upper a_lower v_heaps v_seats v_signs v_hallMany v_chosenSet v_paidSeats v_rhoUp v_rhoBy v_breachGroup v_hallSign v_papers v_sets v_worths)) (As := [.int x1, .int (20 : Int32), .int (25 : Int32)]) (rest := []) C (c_X11_in l D cyI cyJ cyZ   x1 (20 : Int32) (25 : Int32) q8 hq8) cw42 hP hD hS [] [0, 1, 2, 3, 4] [0, 1, 2, 3, 4] rfl rfl rfl (by decide) rfl rfl hl.1 (Nat.le_of_ble_eq_true rfl) dX11_told_74 ⟨Nat.zero_le _, Nat.zero_le _⟩ (fun H locs zq8 hP hD hS => ?_)
      refine lv_if_eq (tgt := 106) hx hb dX11_told_77 (by decide) (fun c9 => ?_) (fun c9 => ?_)
      · have hf := ob_pos c9 hf
        refine lv_iload_n hx hb dX11_told_106 rfl (lv_at hl 1 rfl) ?_
        refine lv_bipush (v := (30 : Int32)) hx hb dX11_told_107 (by decide) ?_
        refine lv_bipush (v := (35 : Int32)) hx hb dX11_told_109 (by decide) ?_
        obtain ⟨q10, hq10, hf⟩ := ob_bind hf
        refine k_Sz (wo := (wd_X11_told cyI cyJ cyZ a_this a_sets a_papers a_worths a_sign a_hallSign a_chosen a_upper a_lower v_heaps v_seats v_signs v_hallMany v_chosenSet v_paidSeats v_rhoUp v_rhoBy v_breachGroup v_hallSign v_papers v_sets v_worths)) (As := [.int x1, .int (30 : Int32), .int (35 : Int32)]) (rest := []) C (c_X11_in l D cyI cyJ cyZ   x1 (30 : Int32) (35 : Int32) q10 hq10) cw42 hP hD hS [] [0, 1, 2, 3, 4] [0, 1, 2, 3, 4] rfl rfl rfl (by decide) rfl rfl hl.1 (Nat.le_of_ble_eq_true rfl) dX11_told_111 ⟨Nat.zero_le _, Nat.zero_le _⟩ (fun H locs zq10 hP hD hS => ?_)
        refine lv_if_eq (tgt := 143) hx hb dX11_told_114 (by decide) (fun c11 => ?_) (fun c11 => ?_)
        · have hf := ob_pos c11 hf
          refine lv_iload_n hx hb dX11_told_143 rfl (lv_at hl 1 rfl) ?_
          refine lv_if_ne (tgt := 154) hx hb dX11_told_144 (by decide) (fun c12 => ?_) (fun c12 => ?_)
          · have hf := ob_neg c12 hf
            refine lv_iload_n hx hb dX11_told_154 rfl (lv_at hl 1 rfl) ?_
            refine lv_iconst (v := (1 : Int32)) hx hb dX11_told_155 (by decide) ?_
            refine lv_icmp_ne (tgt := 166) hx hb dX11_told_156 (by decide) (fun c13 => ?_) (fun c13 => ?_)
            · have hf := ob_neg c13 hf
              refine lv_iload_n hx hb dX11_told_166 rfl (lv_at hl 1 rfl) ?_
              refine lv_iconst (v := (2 : Int32)) hx hb dX11_told_167 (by decide) ?_
              refine lv_icmp_ne (tgt := 178) hx hb dX11_told_168 (by decide) (fun c14 => ?_) (fun c14 => ?_)
              · have hf := ob_neg c14 hf
                refine lv_iload_n hx hb dX11_told_178 rfl (lv_at hl 1 rfl) ?_
                refine lv_iconst (v := (3 : Int32)) hx hb dX11_told_179 (by decide) ?_
                refine lv_icmp_ne (tgt := 190) hx hb dX11_told_180 (by decide) (fun c15 => ?_) (fun c15 => ?_)
                · have hf := ob_neg c15 hf
                  refine lv_iload_n hx hb dX11_told_190 rfl (lv_at hl 1 rfl) ?_
                  refine lv_iconst (v := (4 : Int32)) hx hb dX11_told_191 (by decide) ?_
                  refine lv_icmp_ne (tgt := 199) hx hb dX11_told_192 (by decide) (fun c16 => ?_) (fun c16 => ?_)
                  · have hf := ob_neg c16 hf
                    refine lv_bipush (v := (-2 : Int32)) hx hb dX11_told_199 (by decide) ?_
                    obtain rfl := Option.some.inj hf
                    exact hret _ _ _ _ dX11_told_201 hP hD hS
                  · have hf := ob_pos c16 hf
                    refine lv_iload_n hx hb dX11_told_195 rfl (lv_at hl 2 rfl) ?_
                    refine lv_goto (tgt := 201) hx hb dX11_told_196 (by decide) ?_
                    obtain rfl := Option.some.inj hf
                    exact hret _ _ _ _ dX11_told_201 hP hD hS
                · have hf := ob_pos c15 hf
                  refine lv_aload_n hx hb dX11_told_183 rfl (lv_at hl 0 rfl) ?_
                  refine va_get (D := D) (ci := 10) (v := .int v_signs) (C := RX11) (T := TX11) (N := 17) hx hb hts iX11 hown hK hP 0 rfl rfl 5 (by decide) fl50 (fun _ h9 => h9) rfl dX11_told_184 ?_
                  refine lv_goto (tgt := 201) hx hb dX11_told_187 (by decide) ?_
                  obtain rfl := Option.some.inj hf
                  exact hret _ _ _ _ dX11_told_201 hP hD hS
              · have hf := ob_pos c14 hf
                refine lv_aload_n hx hb dX11_told_171 rfl (lv_at hl 0 rfl) ?_
                refine va_get (D := D) (ci := 10) (v := .int v_seats) (C := RX11) (T := TX11) (N := 17) hx hb hts iX11 hown hK hP 0 rfl rfl 3 (by decide) fl16 (fun _ h9 => h9) rfl dX11_told_172 ?_
                refine lv_goto (tgt := 201) hx hb dX11_told_175 (by decide) ?_
                obtain rfl := Option.some.inj hf
                exact hret _ _ _ _ dX11_told_201 hP hD hS
            · have hf := ob_pos c13 hf
              refine lv_aload_n hx hb dX11_told_159 rfl (lv_at hl 0 rfl) ?_
              obtain ⟨q17, hq17, hf⟩ := ob_bind hf
              refine k_Vi (wo := (wd_X11_told cyI cyJ cyZ a_this a_sets a_papers a_worths a_sign a_hallSign a_chosen a_upper a_lower v_heaps v_seats v_signs v_hallMany v_chosenSet v_paidSeats v_rhoUp v_rhoBy v_breachGroup v_hallSign v_papers v_sets v_worths)) (As := []) (rest := []) C (c_X11_allPapers l D cyI cyJ cyZ a_this a_sets a_papers a_worths a_sign a_hallSign a_chosen a_upper a_lower v_heaps v_seats v_signs v_hallMany v_chosenSet v_paidSeats v_rhoUp v_rhoBy v_breachGroup v_papers  q17 hq17) cw96 hP hD hS [0, 2] [1, 3, 4] [3, 0, 4, 1, 2] rfl rfl rfl (by decide) 0 (ci := 10) rfl rfl rfl rfl rfl hl.1 (Nat.le_of_ble_eq_true rfl) dX11_told_160 ⟨Nat.zero_le _, Nat.zero_le _⟩ (fun H locs hP hD hS => ?_)
              refine lv_goto (tgt := 201) hx hb dX11_told_163 (by decide) ?_
              obtain rfl := Option.some.inj hf
              exact hret _ _ _ _ dX11_told_201 hP hD hS
          · have hf := ob_pos c12 hf
            refine lv_aload_n hx hb dX11_told_147 rfl (lv_at hl 0 rfl) ?_
            refine va_get (D := D) (ci := 10) (v := .int v_heaps) (C := RX11) (T := TX11) (N := 17) hx hb hts iX11 hown hK hP 0 rfl rfl 0 (by decide) fl39 (fun _ h9 => h9) rfl dX11_told_148 ?_
            refine lv_goto (tgt := 201) hx hb dX11_told_151 (by decide) ?_
            obtain rfl := Option.some.inj hf
            exact hret _ _ _ _ dX11_told_201 hP hD hS
        · have hf := ob_neg c11 hf
          refine lv_aload_n hx hb dX11_told_117 rfl (lv_at hl 0 rfl) ?_
          refine lv_iload_n hx hb dX11_told_118 rfl (lv_at hl 1 rfl) ?_
          refine lv_bipush (v := (30 : Int32)) hx hb dX11_told_119 (by decide) ?_
          refine lv_isub hx hb dX11_told_121 ?_
          obtain ⟨q18, hq18, hf⟩ := ob_bind hf
          refine k_Vz (wo := (wd_X11_told cyI cyJ cyZ a_this a_sets a_papers a_worths a_sign a_hallSign a_chosen a_upper a_lower v_heaps v_seats v_signs v_hallMany v_chosenSet v_paidSeats v_rhoUp v_rhoBy v_breachGroup v_hallSign v_papers v_sets v_worths)) (As := [.int (x1 - (30 : Int32))]) (rest := []) C (c_X11_isHeap l D cyI cyJ cyZ a_this a_sets a_papers a_worths a_sign a_hallSign a_chosen a_upper a_lower v_heaps v_seats v_signs v_hallMany v_chosenSet v_paidSeats v_rhoUp v_rhoBy v_breachGroup (x1 - (30 : Int32)) q18 hq18) cw46 hP hD hS [0] [1, 2, 3, 4] [4, 0, 1, 2, 3] rfl rfl rfl (by decide) 0 (ci := 10) rfl rfl rfl rfl rfl hl.1 (Nat.le_of_ble_eq_true rfl) dX11_told_122 ⟨Nat.zero_le _, Nat.zero_le _⟩ (fun H locs zq18 hP hD hS => ?_)
          refine lv_if_eq (tgt := 140) hx hb dX11_told_125 (by decide) (fun c19 => ?_) (fun c19 => ?_)
          · have hf := ob_pos c19 hf
            refine lv_bipush (v := (-6 : Int32)) hx hb dX11_told_140 (by decide) ?_
            obtain rfl := Option.some.inj hf
            exact hret _ _ _ _ dX11_told_142 hP hD hS
          · have hf := ob_neg c19 hf
            refine lv_aload_n hx hb dX11_told_128 rfl (lv_at hl 0 rfl) ?_
            refine va_get (D := D) (ci := 10) (v := .ref a_sets) (C := RX11) (T := TX11) (N := 17) hx hb hts iX11 hown hK hP 0 rfl rfl 1 (by decide) fl7 (fun _ h9 => h9) rfl dX11_told_129 ?_
            refine lv_iload_n hx hb dX11_told_132 rfl (lv_at hl 1 rfl) ?_
            refine lv_bipush (v := (30 : Int32)) hx hb dX11_told_133 (by decide) ?_
            refine lv_isub hx hb dX11_told_135 ?_
            obtain ⟨h20, hf⟩ := og_in hf
            refine va_iald hx hb hK hP 3 0 rfl rfl h20 dX11_told_136 ?_
            refine lv_goto (tgt := 142) hx hb dX11_told_137 (by decide) ?_
            obtain rfl := Option.some.inj hf
            exact hret _ _ _ _ dX11_told_142 hP hD hS
      · have hf := ob_neg c9 hf
        refine lv_aload_n hx hb dX11_told_80 rfl (lv_at hl 0 rfl) ?_
        refine lv_iload_n hx hb dX11_told_81 rfl (lv_at hl 1 rfl) ?_
        refine lv_bipush (v := (20 : Int32)) hx hb dX11_told_82 (by decide) ?_
        refine lv_isub hx hb dX11_told_84 ?_
        obtain ⟨q21, hq21, hf⟩ := ob_bind hf
        refine k_Vz (wo := (wd_X11_told cyI cyJ cyZ a_this a_sets a_papers a_worths a_sign a_hallSign a_chosen a_upper a_lower v_heaps v_seats v_signs v_hallMany v_chosenSet v_paidSeats v_rhoUp v_rhoBy v_breachGroup v_hallSign v_papers v_sets v_worths)) (As := [.int (x1 - (20 : Int32))]) (rest := []) C (c_X11_isHeap l D cyI cyJ cyZ a_this a_sets a_papers a_worths a_sign a_hallSign a_chosen a_upper a_lower v_heaps v_seats v_signs v_hallMany v_chosenSet v_paidSeats v_rhoUp v_rhoBy v_breachGroup (x1 - (20 : Int32)) q21 hq21) cw46 hP hD hS [0] [1, 2, 3, 4] [4, 0, 1, 2, 3] rfl rfl rfl (by decide) 0 (ci := 10) rfl rfl rfl rfl rfl hl.1 (Nat.le_of_ble_eq_true rfl) dX11_told_85 ⟨Nat.zero_le _, Nat.zero_le _⟩ (fun H locs zq21 hP hD hS => ?_)
        refine lv_if_eq (tgt := 103) hx hb dX11_told_88 (by decide) (fun c22 => ?_) (fun c22 => ?_)
        · have hf := ob_pos c22 hf
          refine lv_bipush (v := (-6 : Int32)) hx hb dX11_told_103 (by decide) ?_
          obtain rfl := Option.some.inj hf
          exact hret _ _ _ _ dX11_told_105 hP hD hS
        · have hf := ob_neg c22 hf
          refine lv_aload_n hx hb dX11_told_91 rfl (lv_at hl 0 rfl) ?_
          refine va_get (D := D) (ci := 10) (v := .ref a_papers) (C := RX11) (T := TX11) (N := 17) hx hb hts iX11 hown hK hP 0 rfl rfl 2 (by decide) fl13 (fun _ h9 => h9) rfl dX11_told_92 ?_
          refine lv_iload_n hx hb dX11_told_95 rfl (lv_at hl 1 rfl) ?_
          refine lv_bipush (v := (20 : Int32)) hx hb dX11_told_96 (by decide) ?_
          refine lv_isub hx hb dX11_told_98 ?_
          obtain ⟨h23, hf⟩ := og_in hf
          refine va_iald hx hb hK hP 2 0 rfl rfl h23 dX11_told_99 ?_
          refine lv_goto (tgt := 105) hx hb dX11_told_100 (by decide) ?_
          obtain rfl := Option.some.inj hf
          exact hret _ _ _ _ dX11_told_105 hP hD hS
    · have hf := ob_neg c7 hf
      refine lv_aload_n hx hb dX11_told_59 rfl (lv_at hl 0 rfl) ?_
      refine va_get (D := D) (ci := 10) (v := .ref a_worths) (C := RX11) (T := TX11) (N := 17) hx hb hts iX11 hown hK hP 0 rfl rfl 4 (by decide) fl20 (fun _ h9 => h9) rfl dX11_told_60 ?_
      refine lv_iload_n hx hb dX11_told_63 rfl (lv_at hl 1 rfl) ?_
      refine lv_bipush (v := (10 : Int32)) hx hb dX11_told_64 (by decide) ?_
      refine lv_isub hx hb dX11_told_66 ?_
      obtain ⟨h24, hf⟩ := og_in hf
      refine va_iald hx hb hK hP 4 0 rfl rfl h24 dX11_told_67 ?_
      obtain rfl := Option.some.inj hf
      exact hret _ _ _ _ dX11_told_68 hP hD hS
  · have hf := ob_neg c1 hf
    refine lv_iconst (v := (1 : Int32)) hx hb dX11_told_7 (by decide) ?_
    refine lv_goto (tgt := 12) hx hb dX11_told_8 (by decide) ?_
    refine lv_istore_n (lv' := [(2, .int (1 : Int32)), (0, .ref a_this), (1, .int x1)]) hx hb dX11_told_12 rfl hl (by decide) rfl (fun ls hl => ?_)
    refine lv_iconst (v := (0 : Int32)) hx hb dX11_told_13 (by decide) ?_
    refine lv_istore_n (lv' := [(3, .int (0 : Int32)), (2, .int (1 : Int32)), (0, .ref a_this), (1, .int x1)]) hx hb dX11_told_14 rfl hl (by decide) rfl (fun ls hl => ?_)
    obtain ⟨q25, hq25, hf⟩ := ob_bind hf
    refine wl_X11_told_15 C FU (1 : Int32) (0 : Int32) _ _ _ _ hq25 (fun H locs ls hP hD hS hl => ?_) hP hD hS (lv_sub hl [2, 3, 1, 0] rfl)
    refine lv_iload_n hx hb dX11_told_48 rfl (lv_at hl 1 rfl) ?_
    refine lv_bipush (v := (10 : Int32)) hx hb dX11_told_49 (by decide) ?_
    refine lv_bipush (v := (13 : Int32)) hx hb dX11_told_51 (by decide) ?_
    obtain ⟨q26, hq26, hf⟩ := ob_bind hf
    refine k_Sz (wo := (wd_X11_told cyI cyJ cyZ a_this a_sets a_papers a_worths a_sign a_hallSign a_chosen a_upper a_lower v_heaps v_seats v_signs v_hallMany v_chosenSet v_paidSeats v_rhoUp v_rhoBy v_breachGroup v_hallSign v_papers v_sets v_worths)) (As := [.int x1, .int (10 : Int32), .int (13 : Int32)]) (rest := []) C (c_X11_in l D cyI cyJ cyZ   x1 (10 : Int32) (13 : Int32) q26 hq26) cw42 hP hD hS [] [0, 1, 2, 3, 4] [0, 1, 2, 3, 4] rfl rfl rfl (by decide) rfl rfl hl.1 (Nat.le_of_ble_eq_true rfl) dX11_told_53 ⟨Nat.zero_le _, Nat.zero_le _⟩ (fun H locs zq26 hP hD hS => ?_)
    refine lv_if_eq (tgt := 69) hx hb dX11_told_56 (by decide) (fun c27 => ?_) (fun c27 => ?_)
    · have hf := ob_pos c27 hf
      refine lv_iload_n hx hb dX11_told_69 rfl (lv_at hl 1 rfl) ?_
      refine lv_bipush (v := (20 : Int32)) hx hb dX11_told_70 (by decide) ?_
      refine lv_bipush (v := (25 : Int32)) hx hb dX11_told_72 (by decide) ?_
      obtain ⟨q28, hq28, hf⟩ := ob_bind hf
      refine k_Sz (wo := (wd_X11_told cyI cyJ cyZ a_this a_sets a_papers a_worths a_sign a_hallSign a_chosen a_upper a_lower v_heaps v_seats v_signs v_hallMany v_chosenSet v_paidSeats v_rhoUp v_rhoBy v_breachGroup v_hallSign v_papers v_sets v_worths)) (As := [.int x1, .int (20 : Int32), .int (25 : Int32)]) (rest := []) C (c_X11_in l D cyI cyJ cyZ   x1 (20 : Int32) (25 : Int32) q28 hq28) cw42 hP hD hS [] [0, 1, 2, 3, 4] [0, 1, 2, 3, 4] rfl rfl rfl (by decide) rfl rfl hl.1 (Nat.le_of_ble_eq_true rfl) dX11_told_74 ⟨Nat.zero_le _, Nat.zero_le _⟩ (fun H locs zq28 hP hD hS => ?_)
      refine lv_if_eq (tgt := 106) hx hb dX11_told_77 (by decide) (fun c29 => ?_) (fun c29 => ?_)
      · have hf := ob_pos c29 hf
        refine lv_iload_n hx hb dX11_told_106 rfl (lv_at hl 1 rfl) ?_
        refine lv_bipush (v := (30 : Int32)) hx hb dX11_told_107 (by decide) ?_
        refine lv_bipush (v := (35 : Int32)) hx hb dX11_told_109 (by decide) ?_
        obtain ⟨q30, hq30, hf⟩ := ob_bind hf
        refine k_Sz (wo := (wd_X11_told cyI cyJ cyZ a_this a_sets a_papers a_worths a_sign a_hallSign a_chosen a_upper a_lower v_heaps v_seats v_signs v_hallMany v_chosenSet v_paidSeats v_rhoUp v_rhoBy v_breachGroup v_hallSign v_papers v_sets v_worths)) (As := [.int x1, .int (30 : Int32), .int (35 : Int32)]) (rest := []) C (c_X11_in l D cyI cyJ cyZ   x1 (30 : Int32) (35 : Int32) q30 hq30) cw42 hP hD hS [] [0, 1, 2, 3, 4] [0, 1, 2, 3, 4] rfl rfl rfl (by decide) rfl rfl hl.1 (Nat.le_of_ble_eq_true rfl) dX11_told_111 ⟨Nat.zero_le _, Nat.zero_le _⟩ (fun H locs zq30 hP hD hS => ?_)
        refine lv_if_eq (tgt := 143) hx hb dX11_told_114 (by decide) (fun c31 => ?_) (fun c31 => ?_)
        · have hf := ob_pos c31 hf
          refine lv_iload_n hx hb dX11_told_143 rfl (lv_at hl 1 rfl) ?_
          refine lv_if_ne (tgt := 154) hx hb dX11_told_144 (by decide) (fun c32 => ?_) (fun c32 => ?_)
          · have hf := ob_neg c32 hf
            refine lv_iload_n hx hb dX11_told_154 rfl (lv_at hl 1 rfl) ?_
            refine lv_iconst (v := (1 : Int32)) hx hb dX11_told_155 (by decide) ?_
            refine lv_icmp_ne (tgt := 166) hx hb dX11_told_156 (by decide) (fun c33 => ?_) (fun c33 => ?_)
            · have hf := ob_neg c33 hf
              refine lv_iload_n hx hb dX11_told_166 rfl (lv_at hl 1 rfl) ?_
              refine lv_iconst (v := (2 : Int32)) hx hb dX11_told_167 (by decide) ?_
              refine lv_icmp_ne (tgt := 178) hx hb dX11_told_168 (by decide) (fun c34 => ?_) (fun c34 => ?_)
              · have hf := ob_neg c34 hf
                refine lv_iload_n hx hb dX11_told_178 rfl (lv_at hl 1 rfl) ?_
                refine lv_iconst (v := (3 : Int32)) hx hb dX11_told_179 (by decide) ?_
                refine lv_icmp_ne (tgt := 190) hx hb dX11_told_180 (by decide) (fun c35 => ?_) (fun c35 => ?_)
                · have hf := ob_neg c35 hf
                  refine lv_iload_n hx hb dX11_told_190 rfl (lv_at hl 1 rfl) ?_
                  refine lv_iconst (v := (4 : Int32)) hx hb dX11_told_191 (by decide) ?_
                  refine lv_icmp_ne (tgt := 199) hx hb dX11_told_192 (by decide) (fun c36 => ?_) (fun c36 => ?_)
                  · have hf := ob_neg c36 hf
                    refine lv_bipush (v := (-2 : Int32)) hx hb dX11_told_199 (by decide) ?_
                    obtain rfl := Option.some.inj hf
                    exact hret _ _ _ _ dX11_told_201 hP hD hS
                  · have hf := ob_pos c36 hf
                    refine lv_iload_n hx hb dX11_told_195 rfl (lv_at hl 2 rfl) ?_
                    refine lv_goto (tgt := 201) hx hb dX11_told_196 (by decide) ?_
                    obtain rfl := Option.some.inj hf
                    exact hret _ _ _ _ dX11_told_201 hP hD hS
                · have hf := ob_pos c35 hf
                  refine lv_aload_n hx hb dX11_told_183 rfl (lv_at hl 0 rfl) ?_
                  refine va_get (D := D) (ci := 10) (v := .int v_signs) (C := RX11) (T := TX11) (N := 17) hx hb hts iX11 hown hK hP 0 rfl rfl 5 (by decide) fl50 (fun _ h9 => h9) rfl dX11_told_184 ?_
                  refine lv_goto (tgt := 201) hx hb dX11_told_187 (by decide) ?_
                  obtain rfl := Option.some.inj hf
                  exact hret _ _ _ _ dX11_told_201 hP hD hS
              · have hf := ob_pos c34 hf
                refine lv_aload_n hx hb dX11_told_171 rfl (lv_at hl 0 rfl) ?_
                refine va_get (D := D) (ci := 10) (v := .int v_seats) (C := RX11) (T := TX11) (N := 17) hx hb hts iX11 hown hK hP 0 rfl rfl 3 (by decide) fl16 (fun _ h9 => h9) rfl dX11_told_172 ?_
                refine lv_goto (tgt := 201) hx hb dX11_told_175 (by decide) ?_
                obtain rfl := Option.some.inj hf
                exact hret _ _ _ _ dX11_told_201 hP hD hS
            · have hf := ob_pos c33 hf
              refine lv_aload_n hx hb dX11_told_159 rfl (lv_at hl 0 rfl) ?_
              obtain ⟨q37, hq37, hf⟩ := ob_bind hf
              refine k_Vi (wo := (wd_X11_told cyI cyJ cyZ a_this a_sets a_papers a_worths a_sign a_hallSign a_chosen a_upper a_lower v_heaps v_seats v_signs v_hallMany v_chosenSet v_paidSeats v_rhoUp v_rhoBy v_breachGroup v_hallSign v_papers v_sets v_worths)) (As := []) (rest := []) C (c_X11_allPapers l D cyI cyJ cyZ a_this a_sets a_papers a_worths a_sign a_hallSign a_chosen a_upper a_lower v_heaps v_seats v_signs v_hallMany v_chosenSet v_paidSeats v_rhoUp v_rhoBy v_breachGroup v_papers  q37 hq37) cw96 hP hD hS [0, 2] [1, 3, 4] [3, 0, 4, 1, 2] rfl rfl rfl (by decide) 0 (ci := 10) rfl rfl rfl rfl rfl hl.1 (Nat.le_of_ble_eq_true rfl) dX11_told_160 ⟨Nat.zero_le _, Nat.zero_le _⟩ (fun H locs hP hD hS => ?_)
              refine lv_goto (tgt := 201) hx hb dX11_told_163 (by decide) ?_
              obtain rfl := Option.some.inj hf
              exact hret _ _ _ _ dX11_told_201 hP hD hS
          · have hf := ob_pos c32 hf
            refine lv_aload_n hx hb dX11_told_147 rfl (lv_at hl 0 rfl) ?_
            refine va_get (D := D) (ci := 10) (v := .int v_heaps) (C := RX11) (T := TX11) (N := 17) hx hb hts iX11 hown hK hP 0 rfl rfl 0 (by decide) fl39 (fun _ h9 => h9) rfl dX11_told_148 ?_
            refine lv_goto (tgt := 201) hx hb dX11_told_151 (by decide) ?_
            obtain rfl := Option.some.inj hf
            exact hret _ _ _ _ dX11_told_201 hP hD hS
        · have hf := ob_neg c31 hf
          refine lv_aload_n hx hb dX11_told_117 rfl (lv_at hl 0 rfl) ?_
          refine lv_iload_n hx hb dX11_told_118 rfl (lv_at hl 1 rfl) ?_
          refine lv_bipush (v := (30 : Int32)) hx hb dX11_told_119 (by decide) ?_
          refine lv_isub hx hb dX11_told_121 ?_
          obtain ⟨q38, hq38, hf⟩ := ob_bind hf
          refine k_Vz (wo := (wd_X11_told cyI cyJ cyZ a_this a_sets a_papers a_worths a_sign a_hallSign a_chosen a_upper a_lower v_heaps v_seats v_signs v_hallMany v_chosenSet v_paidSeats v_rhoUp v_rhoBy v_breachGroup v_hallSign v_papers v_sets v_worths)) (As := [.int (x1 - (30 : Int32))]) (rest := []) C (c_X11_isHeap l D cyI cyJ cyZ a_this a_sets a_papers a_worths a_sign a_hallSign a_chosen a_upper a_lower v_heaps v_seats v_signs v_hallMany v_chosenSet v_paidSeats v_rhoUp v_rhoBy v_breachGroup (x1 - (30 : Int32)) q38 hq38) cw46 hP hD hS [0] [1, 2, 3, 4] [4, 0, 1, 2, 3] rfl rfl rfl (by decide) 0 (ci := 10) rfl rfl rfl rfl rfl hl.1 (Nat.le_of_ble_eq_true rfl) dX11_told_122 ⟨Nat.zero_le _, Nat.zero_le _⟩ (fun H locs zq38 hP hD hS => ?_)
          refine lv_if_eq (tgt := 140) hx hb dX11_told_125 (by decide) (fun c39 => ?_) (fun c39 => ?_)
          · have hf := ob_pos c39 hf
            refine lv_bipush (v := (-6 : Int32)) hx hb dX11_told_140 (by decide) ?_
            obtain rfl := Option.some.inj hf
            exact hret _ _ _ _ dX11_told_142 hP hD hS
          · have hf := ob_neg c39 hf
            refine lv_aload_n hx hb dX11_told_128 rfl (lv_at hl 0 rfl) ?_
            refine va_get (D := D) (ci := 10) (v := .ref a_sets) (C := RX11) (T := TX11) (N := 17) hx hb hts iX11 hown hK hP 0 rfl rfl 1 (by decide) fl7 (fun _ h9 => h9) rfl dX11_told_129 ?_
            refine lv_iload_n hx hb dX11_told_132 rfl (lv_at hl 1 rfl) ?_
            refine lv_bipush (v := (30 : Int32)) hx hb dX11_told_133 (by decide) ?_
            refine lv_isub hx hb dX11_told_135 ?_
            obtain ⟨h40, hf⟩ := og_in hf
            refine va_iald hx hb hK hP 3 0 rfl rfl h40 dX11_told_136 ?_
            refine lv_goto (tgt := 142) hx hb dX11_told_137 (by decide) ?_
            obtain rfl := Option.some.inj hf
            exact hret _ _ _ _ dX11_told_142 hP hD hS
      · have hf := ob_neg c29 hf
        refine lv_aload_n hx hb dX11_told_80 rfl (lv_at hl 0 rfl) ?_
        refine lv_iload_n hx hb dX11_told_81 rfl (lv_at hl 1 rfl) ?_
        refine lv_bipush (v := (20 : Int32)) hx hb dX11_told_82 (by decide) ?_
        refine lv_isub hx hb dX11_told_84 ?_
        obtain ⟨q41, hq41, hf⟩ := ob_bind hf
        refine k_Vz (wo := (wd_X11_told cyI cyJ cyZ a_this a_sets a_papers a_worths a_sign a_hallSign a_chosen a_upper a_lower v_heaps v_seats v_signs v_hallMany v_chosenSet v_paidSeats v_rhoUp v_rhoBy v_breachGroup v_hallSign v_papers v_sets v_worths)) (As := [.int (x1 - (20 : Int32))]) (rest := []) C (c_X11_isHeap l D cyI cyJ cyZ a_this a_sets a_papers a_worths a_sign a_hallSign a_chosen a_upper a_lower v_heaps v_seats v_signs v_hallMany v_chosenSet v_paidSeats v_rhoUp v_rhoBy v_breachGroup (x1 - (20 : Int32)) q41 hq41) cw46 hP hD hS [0] [1, 2, 3, 4] [4, 0, 1, 2, 3] rfl rfl rfl (by decide) 0 (ci := 10) rfl rfl rfl rfl rfl hl.1 (Nat.le_of_ble_eq_true rfl) dX11_told_85 ⟨Nat.zero_le _, Nat.zero_le _⟩ (fun H locs zq41 hP hD hS => ?_)
        refine lv_if_eq (tgt := 103) hx hb dX11_told_88 (by decide) (fun c42 => ?_) (fun c42 => ?_)
        · have hf := ob_pos c42 hf
          refine lv_bipush (v := (-6 : Int32)) hx hb dX11_told_103 (by decide) ?_
          obtain rfl := Option.some.inj hf
          exact hret _ _ _ _ dX11_told_105 hP hD hS
        · have hf := ob_neg c42 hf
          refine lv_aload_n hx hb dX11_told_91 rfl (lv_at hl 0 rfl) ?_
          refine va_get (D := D) (ci := 10) (v := .ref a_papers) (C := RX11) (T := TX11) (N := 17) hx hb hts iX11 hown hK hP 0 rfl rfl 2 (by decide) fl13 (fun _ h9 => h9) rfl dX11_told_92 ?_
          refine lv_iload_n hx hb dX11_told_95 rfl (lv_at hl 1 rfl) ?_
          refine lv_bipush (v := (20 : Int32)) hx hb dX11_told_96 (by decide) ?_
          refine lv_isub hx hb dX11_told_98 ?_
          obtain ⟨h43, hf⟩ := og_in hf
          refine va_iald hx hb hK hP 2 0 rfl rfl h43 dX11_told_99 ?_
          refine lv_goto (tgt := 105) hx hb dX11_told_100 (by decide) ?_
          obtain rfl := Option.some.inj hf
          exact hret _ _ _ _ dX11_told_105 hP hD hS
    · have hf := ob_neg c27 hf
      refine lv_aload_n hx hb dX11_told_59 rfl (lv_at hl 0 rfl) ?_
      refine va_get (D := D) (ci := 10) (v := .ref a_worths) (C := RX11) (T := TX11) (N := 17) hx hb hts iX11 hown hK hP 0 rfl rfl 4 (by decide) fl20 (fun _ h9 => h9) rfl dX11_told_60 ?_
      refine lv_iload_n hx hb dX11_told_63 rfl (lv_at hl 1 rfl) ?_
      refine lv_bipush (v := (10 : Int32)) hx hb dX11_told_64 (by decide) ?_
      refine lv_isub hx hb dX11_told_66 ?_
      obtain ⟨h44, hf⟩ := og_in hf
      refine va_iald hx hb hK hP 4 0 rfl rfl h44 dX11_told_67 ?_
      obtain rfl := Option.some.inj hf
      exact hret _ _ _ _ dX11_told_68 hP hD hS
