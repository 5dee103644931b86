abbrev rm_X11_in : Room := { frames := 0, cells := 0, slots := 0, locals := 0 }
abbrev wd_X11_in (cyI cyJ cyZ : ClassId) : va_W := []
def f_X11_in (x0 : Int32) (x1 : Int32) (x2 : Int32) : Option (Int32) := (if x0 < x1 then some (0 : Int32) else (if x2 < x0 then some (0 : Int32) else some (1 : Int32)))
set_option maxHeartbeats 4000000 in
set_option maxRecDepth 100000 in
theorem c_X11_in (l : Launch) (D : va_G) (cyI cyJ cyZ : ClassId) (x0 : Int32) (x1 : Int32) (x2 : Int32) (q : Int32) (hf : f_X11_in x0 x1 x2 = some q) : kMz l yX11_in wsX11_in rm_X11_in D (kTy cyI cyJ cyZ) [.int x0, .int x1, .int x2] (wd_X11_in cyI cyJ cyZ) (wd_X11_in cyI cyJ cyZ) q := by
  refine kMz_of (cc := cX11_in) (nL := 3) (own := RX11) (by decide) rfl rfl (Nat.le_of_ble_eq_true rfl) ?_
  intro p e s m below meth c A Q ls C hret hP hD hS hl
  have hl : lv_has ls 3 [(0, .int x0), (1, .int x1), (2, .int x2)] := hl
  unfold f_X11_in at hf
  obtain ⟨hx, hb, hml, hown, hts, hK, hA⟩ := id C
  refine lv_iload_n hx hb dX11_in_0 rfl (lv_at hl 0 rfl) ?_
  refine lv_iload_n hx hb dX11_in_1 rfl (lv_at hl 1 rfl) ?_
  refine lv_icmp_lt (tgt := 14) hx hb dX11_in_2 (by decide) (fun c1 => ?_) (fun c1 => ?_)
  · have hf := ob_pos c1 hf
    refine lv_iconst (v := (0 : Int32)) hx hb dX11_in_14 (by decide) ?_
    obtain rfl := Option.some.inj hf
    exact hret _ _ _ _ narrow_b0 dX11_in_15 hP hD hS
  · have hf := ob_neg c1 hf
    refine lv_iload_n hx hb dX11_in_5 rfl (lv_at hl 0 rfl) ?_
    refine lv_iload_n hx hb dX11_in_6 rfl (lv_at hl 2 rfl) ?_
    refine lv_icmp_gt (tgt := 14) hx hb dX11_in_7 (by decide) (fun c2 => ?_) (fun c2 => ?_)
    · have hf := ob_pos c2 hf
      refine lv_iconst (v := (0 : Int32)) hx hb dX11_in_14 (by decide) ?_
      obtain rfl := Option.some.inj hf
      exact hret _ _ _ _ narrow_b0 dX11_in_15 hP hD hS
    · have hf := ob_neg c2 hf
      refine lv_iconst (v := (1 : Int32)) hx hb dX11_in_10 (by decide) ?_
      refine lv_goto (tgt := 15) hx hb dX11_in_11 (by decide) ?_
      obtain rfl := Option.some.inj hf
      exact hret _ _ _ _ narrow_b1 dX11_in_15 hP hD hS
abbrev rm_X11_bits : Room := { frames := 0, cells := 0, slots := 0, locals := 0 }
abbrev wd_X11_bits (cyI cyJ cyZ : ClassId) : va_W := []
def lp_X11_bits_4 (y0 : Int32) : Nat → Int32 → Int32 → Option (Int32)
  | 0, _, _ => none
  | n + 1, y1, y2 => (if (8 : Int32) ≤ y2 then some y1 else lp_X11_bits_4 y0 n (y1 + ((y0 >>> (y2 &&& 31)) &&& (1 : Int32))) (y2 + (1 : Int32)))
def f_X11_bits (x0 : Int32) : Option (Int32) := (lp_X11_bits_4 x0 FU (0 : Int32) (0 : Int32)).bind (fun q2 => some q2)
set_option maxHeartbeats 4000000 in
set_option maxRecDepth 100000 in
theorem wl_X11_bits_4 {p : Program} {l : Launch} {e : Env} {s : State} {m : MethodId} {args : Array Value} {below : List Frame} {meth : Method} {c : Code} {A : Nat → Prop} {Q : State → Prop} {D : va_G} {cyI cyJ cyZ : ClassId} {y0 : Int32} (C : kC p s m args c cX11_bits 3 RX11 wsX11_bits D (kTy cyI cyJ cyZ) A) :
    ∀ (n : Nat) (y1 : Int32) (y2 : Int32) (q : Int32) (H : Heap) (locs : List Loc) (ls : Array Slot), lp_X11_bits_4 y0 n y1 y2 = some q → (∀ (H : Heap) (locs : List Loc) (ls : Array Slot), va_P D vwCl (wd_X11_bits cyI cyJ cyZ) H → va_D A (wd_X11_bits cyI cyJ cyZ) → va_S A s.heap H locs → lv_has ls 3 [(1, .int q)] → W p l e rm_X11_bits s m args below meth c H locs 0 0 Q (F0 m 24 ls [])) → va_P D vwCl (wd_X11_bits cyI cyJ cyZ) H → va_D A (wd_X11_bits cyI cyJ cyZ) → va_S A s.heap H locs → lv_has ls 3 [(0, .int y0), (1, .int y1), (2, .int y2)] → W p l e rm_X11_bits s m args below meth c H locs 0 0 Q (F0 m 4 ls []) := by
  obtain ⟨hx, hb, hml, hown, hts, hK, hA⟩ := id C
  intro n
  induction n with
  | zero =>
    intro y1 y2 q H locs ls hf K hP hD hS hl
    rw [lp_X11_bits_4] at hf
    cases hf
  | succ n ih =>
    intro y1 y2 q H locs ls hf K hP hD hS hl
    rw [lp_X11_bits_4] at hf
    refine lv_iload_n hx hb dX11_bits_4 rfl (lv_at hl 2 rfl) ?_
    refine lv_bipush (v := (8 : Int32)) hx hb dX11_bits_5 (by decide) ?_
    refine lv_icmp_ge (tgt := 24) hx hb dX11_bits_7 (by decide) (fun c1 => ?_) (fun c1 => ?_)
    · have hf := ob_pos c1 hf
      obtain rfl := Option.some.inj hf
      exact K _ _ _ hP hD hS (lv_sub hl [1] rfl)
    · have hf := ob_neg c1 hf
      refine lv_iload_n hx hb dX11_bits_10 rfl (lv_at hl 1 rfl) ?_
      refine lv_iload_n hx hb dX11_bits_11 rfl (lv_at hl 0 rfl) ?_
      refine lv_iload_n hx hb dX11_bits_12 rfl (lv_at hl 2 rfl) ?_
      refine lv_ishr hx hb dX11_bits_13 ?_
      refine lv_iconst (v := (1 : Int32)) hx hb dX11_bits_14 (by decide) ?_
      refine lv_iand hx hb dX11_bits_15 ?_
      refine lv_iadd hx hb dX11_bits_16 ?_
      refine lv_istore_n (lv' := [(1, .int (y1 + ((y0 >>> (y2 &&& 31)) &&& (1 : Int32)))), (0, .int y0), (2, .int y2)]) hx hb dX11_bits_17 rfl hl (by decide) rfl (fun ls hl => ?_)
      refine lv_iinc (v := (y2 + (1 : Int32))) (lv' := [(2, .int (y2 + (1 : Int32))), (1, .int (y1 + ((y0 >>> (y2 &&& 31)) &&& (1 : Int32)))), (0, .int y0)]) hx hb dX11_bits_18 hl (k := 2) rfl rfl (by decide) rfl (fun ls hl => ?_)
      refine lv_goto (tgt := 4) hx hb dX11_bits_21 (by decide) ?_
      exact ih (y1 + ((y0 >>> (y2 &&& 31)) &&& (1 : Int32))) (y2 + (1 : Int32)) _ _ _ _ hf K hP hD hS (lv_sub hl [2, 1, 0] rfl)
set_option maxHeartbeats 4000000 in
set_option maxRecDepth 100000 in
theorem c_X11_bits (l : Launch) (D : va_G) (cyI cyJ cyZ : ClassId) (x0 : Int32) (q : Int32) (hf : f_X11_bits x0 = some q) : kMi l yX11_bits wsX11_bits rm_X11_bits D (kTy cyI cyJ cyZ) [.int x0] (wd_X11_bits cyI cyJ cyZ) (wd_X11_bits cyI cyJ cyZ) q := by
  refine kMi_of (cc := cX11_bits) (nL := 3) (own := RX11) (by decide) rfl rfl (Nat.le_of_ble_eq_true rfl) ?_
  intro p e s m below meth c A Q ls C hret hP hD hS hl
  have hl : lv_has ls 3 [(0, .int x0)] := hl
  unfold f_X11_bits at hf
  obtain ⟨hx, hb, hml, hown, hts, hK, hA⟩ := id C
  refine lv_iconst (v := (0 : Int32)) hx hb dX11_bits_0 (by decide) ?_
  refine lv_istore_n (lv' := [(1, .int (0 : Int32)), (0, .int x0)]) hx hb dX11_bits_1 rfl hl (by decide) rfl (fun ls hl => ?_)
  refine lv_iconst (v := (0 : Int32)) hx hb dX11_bits_2 (by decide) ?_
  refine lv_istore_n (lv' := [(2, .int (0 : Int32)), (1, .int (0 : Int32)), (0, .int x0)]) hx hb dX11_bits_3 rfl hl (by decide) rfl (fun ls hl => ?_)
  obtain ⟨q2, hq2, hf⟩ := ob_bind hf
  refine wl_X11_bits_4 C FU (0 : Int32) (0 : Int32) _ _ _ _ hq2 (fun H locs ls hP hD hS hl => ?_) hP hD hS (lv_sub hl [2, 1, 0] rfl)
  refine lv_iload_n hx hb dX11_bits_24 rfl (lv_at hl 0 rfl) ?_
  obtain rfl := Option.some.inj hf
  exact hret _ _ _ _ dX11_bits_25 hP hD hS
abbrev rm_X11_isHeap : Room := { frames := 1, cells := 0, slots := 0, locals := 22 }
abbrev wd_X11_isHeap (cyI cyJ cyZ : ClassId) (a_this a_sets a_papers a_worths a_sign a_hallSign a_chosen a_upper a_lower : Nat) (v_heaps : Int32) (v_seats : Int32) (v_signs : Int32) (v_hallMany : Int32) (v_chosenSet : Int32) (v_paidSeats : Int32) (v_rhoUp : Int64) (v_rhoBy : Int64) (v_breachGroup : Int32) : va_W := [(a_this, .inr (10, [.int v_heaps, .ref a_sets, .ref a_papers, .int v_seats, .ref a_worths, .int v_signs, .ref a_sign, .int v_hallMany, .ref a_hallSign, .ref a_chosen, .int v_chosenSet, .int v_paidSeats, .ref a_upper, .ref a_lower, .long v_rhoUp, .long v_rhoBy, .int v_breachGroup]))]
def f_X11_isHeap (x1 : Int32) (v_heaps : Int32) : Option (Int32) := (f_X11_in x1 (0 : Int32) (v_heaps - (1 : Int32))).bind (fun q1 => some q1)
set_option maxHeartbeats 4000000 in
set_option maxRecDepth 100000 in
theorem c_X11_isHeap (l : Launch) (D : va_G) (cyI cyJ cyZ : ClassId) (a_this a_sets a_papers a_worths a_sign a_hallSign a_chosen a_upper a_lower : Nat) (v_heaps : Int32) (v_seats : Int32) (v_signs : Int32) (v_hallMany : Int32) (v_chosenSet : Int32) (v_paidSeats : Int32) (v_rhoUp : Int64) (v_rhoBy : Int64) (v_breachGroup : Int32) (x1 : Int32) (q : Int32) (hf : f_X11_isHeap x1 v_heaps = some q) : kMz l yX11_isHeap wsX11_isHeap rm_X11_isHeap D (kTy cyI cyJ cyZ) [.ref a_this, .int x1] (wd_X11_isHeap cyI cyJ cyZ a_this a_sets a_papers a_worths a_sign a_hallSign a_chosen a_upper a_lower v_heaps v_seats v_signs v_hallMany v_chosenSet v_paidSeats v_rhoUp v_rhoBy v_breachGroup) (wd_X11_isHeap cyI cyJ cyZ a_this a_sets a_papers a_worths a_sign a_hallSign a_chosen a_upper a_lower v_heaps v_seats v_signs v_hallMany v_chosenSet v_paidSeats v_rhoUp v_rhoBy v_breachGroup) q := by
  refine kMz_of (cc := cX11_isHeap) (nL := 2) (own := RX11) (by decide) rfl rfl (Nat.le_of_ble_eq_true rfl) ?_
  intro p e s m below meth c A Q ls C hret hP hD hS hl
  have hl : lv_has ls 2 [(0, .ref a_this), (1, .int x1)] := hl
  unfold f_X11_isHeap at hf
  obtain ⟨hx, hb, hml, hown, hts, hK, hA⟩ := id C
  have iX11 : ∀ w ∈ u_ws RX11 TX11 17, w ∈ wsX11_isHeap := by decide +kernel
  have fl39 := hts (.fieldLink RX11 39 "FairSeatsModel" "heaps" "I") (by decide +kernel)
  have cw42 := va_cwS (R := rm_X11_isHeap) (rm := rm_X11_in) 3 hts gX11_isHeap_X11_in rfl rfl rfl (by decide +kernel) ⟨Nat.le_of_ble_eq_true rfl, Nat.le_of_ble_eq_true rfl⟩
  refine lv_iload_n hx hb dX11_isHeap_0 rfl (lv_at hl 1 rfl) ?_
  refine lv_iconst (v := (0 : Int32)) hx hb dX11_isHeap_1 (by decide) ?_
  refine lv_aload_n hx hb dX11_isHeap_2 rfl (lv_at hl 0 rfl) ?_
  refine va_get (D := D) (ci := 10) (v := .int v_heaps) (C := RX11) (T := TX11) (N := 17) hx hb hts iX11 hown hK hP 0 rfl rfl 0 (by decide) fl39 (fun _ h9 => h9) rfl dX11_isHeap_3 ?_
  refine lv_iconst (v := (1 : Int32)) hx hb dX11_isHeap_6 (by decide) ?_
  refine lv_isub hx hb dX11_isHeap_7 ?_
  obtain ⟨q1, hq1, hf⟩ := ob_bind hf
  refine k_Sz (wo := (wd_X11_isHeap cyI cyJ cyZ a_this a_sets a_papers a_worths a_sign a_hallSign a_chosen a_upper a_lower v_heaps v_seats v_signs v_hallMany v_chosenSet v_paidSeats v_rhoUp v_rhoBy v_breachGroup)) (As := [.int x1, .int (0 : Int32), .int (v_heaps - (1 : Int32))]) (rest := []) C (c_X11_in l D cyI cyJ cyZ   x1 (0 : Int32) (v_heaps - (1 : Int32)) q1 hq1) cw42 hP hD hS [] [0] [0] rfl rfl rfl (by decide) rfl rfl hl.1 (Nat.le_of_ble_eq_true rfl) dX11_isHeap_8 ⟨Nat.zero_le _, Nat.zero_le _⟩ (fun H locs zq1 hP hD hS => ?_)
  obtain rfl := Option.some.inj hf
  exact hret _ _ _ _ zq1 dX11_isHeap_11 hP hD hS
abbrev rm_X11_heap : Room := { frames := 1, cells := 0, slots := 0, locals := 22 }
abbrev wd_X11_heap (cyI cyJ cyZ : ClassId) (a_this a_sets a_papers a_worths a_sign a_hallSign a_chosen a_upper a_lower : Nat) (v_heaps : Int32) (v_seats : Int32) (v_signs : Int32) (v_hallMany : Int32) (v_chosenSet : Int32) (v_paidSeats : Int32) (v_rhoUp : Int64) (v_rhoBy : Int64) (v_breachGroup : Int32) (v_papers : Nat → Int32) (v_sets : Nat → Int32) : va_W := [(a_this, .inr (10, [.int v_heaps, .ref a_sets, .ref a_papers, .int v_seats, .ref a_worths, .int v_signs, .ref a_sign, .int v_hallMany, .ref a_hallSign, .ref a_chosen, .int v_chosenSet, .int v_paidSeats, .ref a_upper, .ref a_lower, .long v_rhoUp, .long v_rhoBy, .int v_breachGroup])), (a_papers, .inl (cyI, 7, .inl v_papers)), (a_sets, .inl (cyI, 7, .inl v_sets))]
def f_X11_heap (x1 : Int32) (x2 : Int32) (v_heaps : Int32) (v_papers : Nat → Int32) (v_sets : Nat → Int32) : Option (Int32 × Int32 × (Nat → Int32) × (Nat → Int32)) := (f_X11_in x1 (1 : Int32) (255 : Int32)).bind (fun q1 => (if q1 = 0 then some ((-2 : Int32), v_heaps, v_papers, v_sets) else (f_X11_in x2 (1 : Int32) (100 : Int32)).bind (fun q3 => (if q3 = 0 then some ((-2 : Int32), v_heaps, v_papers, v_sets) else (if v_heaps = (6 : Int32) then some ((-4 : Int32), v_heaps, v_papers, v_sets) else (if ob_in v_heaps 7 = true then (if ob_in v_heaps 7 = true then some (((v_heaps + (1 : Int32)) - (1 : Int32)), (v_heaps + (1 : Int32)), (upd v_papers v_heaps.toNatClampNeg x2), (upd v_sets v_heaps.toNatClampNeg x1)) else none) else none))))))
set_option maxHeartbeats 4000000 in
set_option maxRecDepth 100000 in
theorem c_X11_heap (l : Launch) (D : va_G) (cyI cyJ cyZ : ClassId) (a_this a_sets a_papers a_worths a_sign a_hallSign a_chosen a_upper a_lower : Nat) (v_heaps : Int32) (v_seats : Int32) (v_signs : Int32) (v_hallMany : Int32) (v_chosenSet : Int32) (v_paidSeats : Int32) (v_rhoUp : Int64) (v_rhoBy : Int64) (v_breachGroup : Int32) (v_papers : Nat → Int32) (v_sets : Nat → Int32) (x1 : Int32) (x2 : Int32) (q : Int32 × Int32 × (Nat → Int32) × (Nat → Int32)) (hf : f_X11_heap x1 x2 v_heaps v_papers v_sets = some q) : kMi l yX11_heap wsX11_heap rm_X11_heap D (kTy cyI cyJ cyZ) [.ref a_this, .int x1, .int x2] (wd_X11_heap cyI cyJ cyZ a_this a_sets a_papers a_worths a_sign a_hallSign a_chosen a_upper a_lower v_heaps v_seats v_signs v_hallMany v_chosenSet v_paidSeats v_rhoUp v_rhoBy v_breachGroup v_papers v_sets) (wd_X11_heap cyI cyJ cyZ a_this a_sets a_papers a_worths a_sign a_hallSign a_chosen a_upper a_lower q.2.1 v_seats v_signs v_hallMany v_chosenSet v_paidSeats v_rhoUp v_rhoBy v_breachGroup q.2.2.1 q.2.2.2) q.1 := by
  refine kMi_of (cc := cX11_heap) (nL := 3) (own := RX11) (by decide) rfl rfl (Nat.le_of_ble_eq_true rfl) ?_
  intro p e s m below meth c A Q ls C hret hP hD hS hl
  have hl : lv_has ls 3 [(0, .ref a_this), (1, .int x1), (2, .int x2)] := hl
  unfold f_X11_heap at hf
  obtain ⟨hx, hb, hml, hown, hts, hK, hA⟩ := id C
  have iX11 : ∀ w ∈ u_ws RX11 TX11 17, w ∈ wsX11_heap := by decide +kernel
  have fl7 := hts (.fieldLink RX11 7 "FairSeatsModel" "sets" "[I") (by decide +kernel)
  have fl13 := hts (.fieldLink RX11 13 "FairSeatsModel" "papers" "[I") (by decide +kernel)
  have fl39 := hts (.fieldLink RX11 39 "FairSeatsModel" "heaps" "I") (by decide +kernel)
  have cw42 := va_cwS (R := rm_X11_heap) (rm := rm_X11_in) 3 hts gX11_heap_X11_in rfl rfl rfl (by decide +kernel) ⟨Nat.le_of_ble_eq_true rfl, Nat.le_of_ble_eq_true rfl⟩
  refine lv_iload_n hx hb dX11_heap_0 rfl (lv_at hl 1 rfl) ?_
  refine lv_iconst (v := (1 : Int32)) hx hb dX11_heap_1 (by decide) ?_
  refine lv_sipush (v := (255 : Int32)) hx hb dX11_heap_2 (by decide) ?_
  obtain ⟨q1, hq1, hf⟩ := ob_bind hf
  refine k_Sz (wo := (wd_X11_heap cyI cyJ cyZ a_this a_sets a_papers a_worths a_sign a_hallSign a_chosen a_upper a_lower v_heaps v_seats v_signs v_hallMany v_chosenSet v_paidSeats v_rhoUp v_rhoBy v_breachGroup v_papers v_sets)) (As := [.int x1, .int (1 : Int32), .int (255 : Int32)]) (rest := []) C (c_X11_in l D cyI cyJ cyZ   x1 (1 : Int32) (255 : Int32) q1 hq1) cw42 hP hD hS [] [0, 1, 2] [0, 1, 2] rfl rfl rfl (by decide) rfl rfl hl.1 (Nat.le_of_ble_eq_true rfl) dX11_heap_5 ⟨Nat.zero_le _, Nat.zero_le _⟩ (fun H locs zq1 hP hD hS => ?_)
  refine lv_if_eq (tgt := 21) hx hb dX11_heap_8 (by decide) (fun c2 => ?_) (fun c2 => ?_)
  · have hf := ob_pos c2 hf
    refine lv_bipush (v := (-2 : Int32)) hx hb dX11_heap_21 (by decide) ?_
    obtain rfl := Option.some.inj hf
    exact hret _ _ _ _ dX11_heap_23 hP hD hS
  · have hf := ob_neg c2 hf
    refine lv_iload_n hx hb dX11_heap_11 rfl (lv_at hl 2 rfl) ?_
    refine lv_iconst (v := (1 : Int32)) hx hb dX11_heap_12 (by decide) ?_
    refine lv_bipush (v := (100 : Int32)) hx hb dX11_heap_13 (by decide) ?_
    obtain ⟨q3, hq3, hf⟩ := ob_bind hf
    refine k_Sz (wo := (wd_X11_heap cyI cyJ cyZ a_this a_sets a_papers a_worths a_sign a_hallSign a_chosen a_upper a_lower v_heaps v_seats v_signs v_hallMany v_chosenSet v_paidSeats v_rhoUp v_rhoBy v_breachGroup v_papers v_sets)) (As := [.int x2, .int (1 : Int32), .int (100 : Int32)]) (rest := []) C (c_X11_in l D cyI cyJ cyZ   x2 (1 : Int32) (100 : Int32) q3 hq3) cw42 hP hD hS [] [0, 1, 2] [0, 1, 2] rfl rfl rfl (by decide) rfl rfl hl.1 (Nat.le_of_ble_eq_true rfl) dX11_heap_15 ⟨Nat.zero_le _, Nat.zero_le _⟩ (fun H locs zq3 hP hD hS => ?_)
    refine lv_if_ne (tgt := 24) hx hb dX11_heap_18 (by decide) (fun c4 => ?_) (fun c4 => ?_)
    · have hf := ob_neg c4 hf
      refine lv_aload_n hx hb dX11_heap_24 rfl (lv_at hl 0 rfl) ?_
      refine va_get (D := D) (ci := 10) (v := .int v_heaps) (C := RX11) (T := TX11) (N := 17) hx hb hts iX11 hown hK hP 0 rfl rfl 0 (by decide) fl39 (fun _ h9 => h9) rfl dX11_heap_25 ?_
      refine lv_bipush (v := (6 : Int32)) hx hb dX11_heap_28 (by decide) ?_
      refine lv_icmp_ne (tgt := 36) hx hb dX11_heap_30 (by decide) (fun c5 => ?_) (fun c5 => ?_)
      · have hf := ob_neg c5 hf
        refine lv_aload_n hx hb dX11_heap_36 rfl (lv_at hl 0 rfl) ?_
        refine va_get (D := D) (ci := 10) (v := .ref a_sets) (C := RX11) (T := TX11) (N := 17) hx hb hts iX11 hown hK hP 0 rfl rfl 1 (by decide) fl7 (fun _ h9 => h9) rfl dX11_heap_37 ?_
        refine lv_aload_n hx hb dX11_heap_40 rfl (lv_at hl 0 rfl) ?_
        refine va_get (D := D) (ci := 10) (v := .int v_heaps) (C := RX11) (T := TX11) (N := 17) hx hb hts iX11 hown hK hP 0 rfl rfl 0 (by decide) fl39 (fun _ h9 => h9) rfl dX11_heap_41 ?_
        refine lv_iload_n hx hb dX11_heap_44 rfl (lv_at hl 1 rfl) ?_
        obtain ⟨h6, hf⟩ := og_in hf
        refine va_iast hx hb hK hP hD hS 2 0 rfl rfl h6 dX11_heap_45 (fun H locs hP hD hS => ?_)
        have hP : va_P D vwCl (wd_X11_heap cyI cyJ cyZ a_this a_sets a_papers a_worths a_sign a_hallSign a_chosen a_upper a_lower v_heaps v_seats v_signs v_hallMany v_chosenSet v_paidSeats v_rhoUp v_rhoBy v_breachGroup v_papers (upd v_sets v_heaps.toNatClampNeg x1)) H := hP
        have hD : va_D A (wd_X11_heap cyI cyJ cyZ a_this a_sets a_papers a_worths a_sign a_hallSign a_chosen a_upper a_lower v_heaps v_seats v_signs v_hallMany v_chosenSet v_paidSeats v_rhoUp v_rhoBy v_breachGroup v_papers (upd v_sets v_heaps.toNatClampNeg x1)) := hD
        refine lv_aload_n hx hb dX11_heap_46 rfl (lv_at hl 0 rfl) ?_
        refine va_get (D := D) (ci := 10) (v := .ref a_papers) (C := RX11) (T := TX11) (N := 17) hx hb hts iX11 hown hK hP 0 rfl rfl 2 (by decide) fl13 (fun _ h9 => h9) rfl dX11_heap_47 ?_
        refine lv_aload_n hx hb dX11_heap_50 rfl (lv_at hl 0 rfl) ?_
        refine va_get (D := D) (ci := 10) (v := .int v_heaps) (C := RX11) (T := TX11) (N := 17) hx hb hts iX11 hown hK hP 0 rfl rfl 0 (by decide) fl39 (fun _ h9 => h9) rfl dX11_heap_51 ?_
        refine lv_iload_n hx hb dX11_heap_54 rfl (lv_at hl 2 rfl) ?_
        obtain ⟨h7, hf⟩ := og_in hf
        refine va_iast hx hb hK hP hD hS 1 0 rfl rfl h7 dX11_heap_55 (fun H locs hP hD hS => ?_)
        have hP : va_P D vwCl (wd_X11_heap cyI cyJ cyZ a_this a_sets a_papers a_worths a_sign a_hallSign a_chosen a_upper a_lower v_heaps v_seats v_signs v_hallMany v_chosenSet v_paidSeats v_rhoUp v_rhoBy v_breachGroup (upd v_papers v_heaps.toNatClampNeg x2) (upd v_sets v_heaps.toNatClampNeg x1)) H := hP
        have hD : va_D A (wd_X11_heap cyI cyJ cyZ a_this a_sets a_papers a_worths a_sign a_hallSign a_chosen a_upper a_lower v_heaps v_seats v_signs v_hallMany v_chosenSet v_paidSeats v_rhoUp v_rhoBy v_breachGroup (upd v_papers v_heaps.toNatClampNeg x2) (upd v_sets v_heaps.toNatClampNeg x1)) := hD
        refine lv_aload_n hx hb dX11_heap_56 rfl (lv_at hl 0 rfl) ?_
        refine lv_dup hx hb dX11_heap_57 rfl ?_
        refine va_get (D := D) (ci := 10) (v := .int v_heaps) (C := RX11) (T := TX11) (N := 17) hx hb hts iX11 hown hK hP 0 rfl rfl 0 (by decide) fl39 (fun _ h9 => h9) rfl dX11_heap_58 ?_
        refine lv_iconst (v := (1 : Int32)) hx hb dX11_heap_61 (by decide) ?_
        refine lv_iadd hx hb dX11_heap_62 ?_
        refine va_put (D := D) (ci := 10) (v := .int (v_heaps + (1 : Int32))) (ty := .int) (C := RX11) (T := TX11) (N := 17) hx hb hts iX11 tyX11 tyX11_ok nmX11 hown hK hP hD hS 0 rfl rfl 0 (by decide) fl39 (fun _ h9 => h9) rfl (by decide +kernel) rfl rfl (Nat.le_of_ble_eq_true rfl) dX11_heap_63 (fun H locs hP hD hS => ?_)
        have hP : va_P D vwCl (wd_X11_heap cyI cyJ cyZ a_this a_sets a_papers a_worths a_sign a_hallSign a_chosen a_upper a_lower (v_heaps + (1 : Int32)) v_seats v_signs v_hallMany v_chosenSet v_paidSeats v_rhoUp v_rhoBy v_breachGroup (upd v_papers v_heaps.toNatClampNeg x2) (upd v_sets v_heaps.toNatClampNeg x1)) H := hP
        have hD : va_D A (wd_X11_heap cyI cyJ cyZ a_this a_sets a_papers a_worths a_sign a_hallSign a_chosen a_upper a_lower (v_heaps + (1 : Int32)) v_seats v_signs v_hallMany v_chosenSet v_paidSeats v_rhoUp v_rhoBy v_breachGroup (upd v_papers v_heaps.toNatClampNeg x2) (upd v_sets v_heaps.toNatClampNeg x1)) := hD
        refine lv_aload_n hx hb dX11_heap_66 rfl (lv_at hl 0 rfl) ?_
        refine va_get (D := D) (ci := 10) (v := .int (v_heaps + (1 : Int32))) (C := RX11) (T := TX11) (N := 17) hx hb hts iX11 hown hK hP 0 rfl rfl 0 (by decide) fl39 (fun _ h9 => h9) rfl dX11_heap_67 ?_
        refine lv_iconst (v := (1 : Int32)) hx hb dX11_heap_70 (by decide) ?_
        refine lv_isub hx hb dX11_heap_71 ?_
        obtain rfl := Option.some.inj hf
        exact hret _ _ _ _ dX11_heap_72 hP hD hS
      · have hf := ob_pos c5 hf
        refine lv_bipush (v := (-4 : Int32)) hx hb dX11_heap_33 (by decide) ?_
        obtain rfl := Option.some.inj hf
        exact hret _ _ _ _ dX11_heap_35 hP hD hS
    · have hf := ob_pos c4 hf
      refine lv_bipush (v := (-2 : Int32)) hx hb dX11_heap_21 (by decide) ?_
      obtain rfl := Option.some.inj hf
      exact hret _ _ _ _ dX11_heap_23 hP hD hS
abbrev rm_X11_change : Room := { frames := 2, cells := 0, slots := 0, locals := 43 }
abbrev wd_X11_change (cyI cyJ cyZ : ClassId) (a_this a_sets a_papers a_worths a_sign a_hallSign a_chosen a_upper a_lower : Nat) (v_heaps : Int32) (v_seats : Int32) (v_signs : Int32) (v_hallMany : Int32) (v_chosenSet : Int32) (v_paidSeats : Int32) (v_rhoUp : Int64) (v_rhoBy : Int64) (v_breachGroup : Int32) (v_papers : Nat → Int32) (v_sets : Nat → Int32) : va_W := [(a_this, .inr (10, [.int v_heaps, .ref a_sets, .ref a_papers, .int v_seats, .ref a_worths, .int v_signs, .ref a_sign, .int v_hallMany, .ref a_hallSign, .ref a_chosen, .int v_chosenSet, .int v_paidSeats, .ref a_upper, .ref a_lower, .long v_rhoUp, .long v_rhoBy, .int v_breachGroup])), (a_papers, .inl (cyI, 7, .inl v_papers)), (a_sets, .inl (cyI, 7, .inl v_sets))]
def f_X11_change (x1 : Int32) (x2 : Int32) (x3 : Int32) (v_heaps : Int32) (v_papers : Nat → Int32) (v_sets : Nat → Int32) : Option (Int32 × (Nat → Int32) × (Nat → Int32)) := (f_X11_isHeap x1 v_heaps).bind (fun q1 => (if q1 = 0 then some ((-1 : Int32), v_papers, v_sets) else (f_X11_in x2 (0 : Int32) (1 : Int32)).bind (fun q3 => (if q3 = 0 then some ((-2 : Int32), v_papers, v_sets) else (if x2 = 0 then (f_X11_in x3 (1 : Int32) (255 : Int32)).bind (fun q17 => (if q17 = 0 then some ((-2 : Int32), v_papers, v_sets) else (if x2 = 0 then (if ob_in x1 7 = true then (if x2 = 0 then (if ob_in x1 7 = true then some ((v_sets x1.toNatClampNeg), v_papers, (upd v_sets x1.toNatClampNeg x3)) else none) else (if ob_in x1 7 = true then some ((v_sets x1.toNatClampNeg), (upd v_papers x1.toNatClampNeg x3), v_sets) else none)) else none) else (if ob_in x1 7 = true then (if x2 = 0 then (if ob_in x1 7 = true then some ((v_papers x1.toNatClampNeg), v_papers, (upd v_sets x1.toNatClampNeg x3)) else none) else (if ob_in x1 7 = true then some ((v_papers x1.toNatClampNeg), (upd v_papers x1.toNatClampNeg x3), v_sets) else none)) else none)))) else (f_X11_in x3 (1 : Int32) (100 : Int32)).bind (fun q6 => (if q6 = 0 then some ((-2 : Int32), v_papers, v_sets) else (if x2 = 0 then (if ob_in x1 7 = true then (if x2 = 0 then (if ob_in x1 7 = true then some ((v_sets x1.toNatClampNeg), v_papers, (upd v_sets x1.toNatClampNeg x3)) else none) else (if ob_in x1 7 = true then some ((v_sets x1.toNatClampNeg), (upd v_papers x1.toNatClampNeg x3), v_sets) else none)) else none) else (if ob_in x1 7 = true then (if x2 = 0 then (if ob_in x1 7 = true then some ((v_papers x1.toNatClampNeg), v_papers, (upd v_sets x1.toNatClampNeg x3)) else none) else (if ob_in x1 7 = true then some ((v_papers x1.toNatClampNeg), (upd v_papers x1.toNatClampNeg x3), v_sets) else none)) else none)))))))))
set_option maxHeartbeats 4000000 in
set_option maxRecDepth 100000 in
theorem c_X11_change (l : Launch) (D : va_G) (cyI cyJ cyZ : ClassId) (a_this a_sets a_papers a_worths a_sign a_hallSign a_chosen a_upper a_lower : Nat) (v_heaps : Int32) (v_seats : Int32) (v_signs : Int32) (v_hallMany : Int32) (v_chosenSet : Int32) (v_paidSeats : Int32) (v_rhoUp : Int64) (v_rhoBy : Int64) (v_breachGroup : Int32) (v_papers : Nat → Int32) (v_sets : Nat → Int32) (x1 : Int32) (x2 : Int32) (x3 : Int32) (q : Int32 × (Nat → Int32) × (Nat → Int32)) (hf : f_X11_change x1 x2 x3 v_heaps v_papers v_sets = some q) : kMi l yX11_change wsX11_change rm_X11_change D (kTy cyI cyJ cyZ) [.ref a_this, .int x1, .int x2, .int x3] (wd_X11_change cyI cyJ cyZ a_this a_sets a_papers a_worths a_sign a_hallSign a_chosen a_upper a_lower v_heaps v_seats v_signs v_hallMany v_chosenSet v_paidSeats v_rhoUp v_rhoBy v_breachGroup v_papers v_sets) (wd_X11_change cyI cyJ cyZ a_this a_sets a_papers a_worths a_sign a_hallSign a_chosen a_upper a_lower v_heaps v_seats v_signs v_hallMany v_chosenSet v_paidSeats v_rhoUp v_rhoBy v_breachGroup q.2.1 q.2.2) q.1 := by
  refine kMi_of (cc := cX11_change) (nL := 5) (own := RX11) (by decide) rfl rfl (Nat.le_of_ble_eq_true rfl) ?_
  intro p e s m below meth c A Q ls C hret hP hD hS hl
  have hl : lv_has ls 5 [(0, .ref a_this), (1, .int x1), (2, .int x2), (3, .int x3)] := hl
  unfold f_X11_change at hf
  obtain ⟨hx, hb, hml, hown, hts, hK, hA⟩ := id C
  have iX11 : ∀ w ∈ u_ws RX11 TX11 17, w ∈ wsX11_change := by decide +kernel
  have fl7 := hts (.fieldLink RX11 7 "FairSeatsModel" "sets" "[I") (by decide +kernel)
  have fl13 := hts (.fieldLink RX11 13 "FairSeatsModel" "papers" "[I") (by decide +kernel)
  have cw42 := va_cwS (R := rm_X11_change) (rm := rm_X11_in) 3 hts gX11_change_X11_in rfl rfl rfl (by decide +kernel) ⟨Nat.le_of_ble_eq_true rfl, Nat.le_of_ble_eq_true rfl⟩
  have cw46 := cwV (R := rm_X11_change) (rm := rm_X11_isHeap) 1 hts gX11_change_X11_isHeap rfl rfl rfl (by decide +kernel) ⟨Nat.le_of_ble_eq_true rfl, Nat.le_of_ble_eq_true rfl⟩
  refine lv_aload_n hx hb dX11_change_0 rfl (lv_at hl 0 rfl) ?_
  refine lv_iload_n hx hb dX11_change_1 rfl (lv_at hl 1 rfl) ?_
  obtain ⟨q1, hq1, hf⟩ := ob_bind hf
  refine k_Vz (wo := (wd_X11_change cyI cyJ cyZ a_this a_sets a_papers a_worths a_sign a_hallSign a_chosen a_upper a_lower v_heaps v_seats v_signs v_hallMany v_chosenSet v_paidSeats v_rhoUp v_rhoBy v_breachGroup v_papers v_sets)) (As := [.int x1]) (rest := []) C (c_X11_isHeap l D cyI cyJ cyZ a_this a_sets a_papers a_worths a_sign a_hallSign a_chosen a_upper a_lower v_heaps v_seats v_signs v_hallMany v_chosenSet v_paidSeats v_rhoUp v_rhoBy v_breachGroup x1 q1 hq1) cw46 hP hD hS [0] [1, 2] [2, 0, 1] rfl rfl rfl (by decide) 0 (ci := 10) rfl rfl rfl rfl rfl hl.1 (Nat.le_of_ble_eq_true rfl) dX11_change_2 ⟨Nat.zero_le _, Nat.zero_le _⟩ (fun H locs zq1 hP hD hS => ?_)
  refine lv_if_ne (tgt := 10) hx hb dX11_change_5 (by decide) (fun c2 => ?_) (fun c2 => ?_)
  · have hf := ob_neg c2 hf
    refine lv_iload_n hx hb dX11_change_10 rfl (lv_at hl 2 rfl) ?_
    refine lv_iconst (v := (0 : Int32)) hx hb dX11_change_11 (by decide) ?_
    refine lv_iconst (v := (1 : Int32)) hx hb dX11_change_12 (by decide) ?_
    obtain ⟨q3, hq3, hf⟩ := ob_bind hf
    refine k_Sz (wo := (wd_X11_change cyI cyJ cyZ a_this a_sets a_papers a_worths a_sign a_hallSign a_chosen a_upper a_lower v_heaps v_seats v_signs v_hallMany v_chosenSet v_paidSeats v_rhoUp v_rhoBy v_breachGroup v_papers v_sets)) (As := [.int x2, .int (0 : Int32), .int (1 : Int32)]) (rest := []) C (c_X11_in l D cyI cyJ cyZ   x2 (0 : Int32) (1 : Int32) q3 hq3) cw42 hP hD hS [] [0, 1, 2] [0, 1, 2] rfl rfl rfl (by decide) rfl rfl hl.1 (Nat.le_of_ble_eq_true rfl) dX11_change_13 ⟨Nat.zero_le _, Nat.zero_le _⟩ (fun H locs zq3 hP hD hS => ?_)
    refine lv_if_eq (tgt := 39) hx hb dX11_change_16 (by decide) (fun c4 => ?_) (fun c4 => ?_)
    · have hf := ob_pos c4 hf
      refine lv_bipush (v := (-2 : Int32)) hx hb dX11_change_39 (by decide) ?_
      obtain rfl := Option.some.inj hf
      exact hret _ _ _ _ dX11_change_41 hP hD hS
    · have hf := ob_neg c4 hf
      refine lv_iload_n hx hb dX11_change_19 rfl (lv_at hl 3 rfl) ?_
      refine lv_iconst (v := (1 : Int32)) hx hb dX11_change_20 (by decide) ?_
      refine lv_iload_n hx hb dX11_change_21 rfl (lv_at hl 2 rfl) ?_
      refine lv_if_ne (tgt := 31) hx hb dX11_change_22 (by decide) (fun c5 => ?_) (fun c5 => ?_)
      · have hf := ob_neg c5 hf
        refine lv_bipush (v := (100 : Int32)) hx hb dX11_change_31 (by decide) ?_
        obtain ⟨q6, hq6, hf⟩ := ob_bind hf
        refine k_Sz (wo := (wd_X11_change cyI cyJ cyZ a_this a_sets a_papers a_worths a_sign a_hallSign a_chosen a_upper a_lower v_heaps v_seats v_signs v_hallMany v_chosenSet v_paidSeats v_rhoUp v_rhoBy v_breachGroup v_papers v_sets)) (As := [.int x3, .int (1 : Int32), .int (100 : Int32)]) (rest := []) C (c_X11_in l D cyI cyJ cyZ   x3 (1 : Int32) (100 : Int32) q6 hq6) cw42 hP hD hS [] [0, 1, 2] [0, 1, 2] rfl rfl rfl (by decide) rfl rfl hl.1 (Nat.le_of_ble_eq_true rfl) dX11_change_33 ⟨Nat.zero_le _, Nat.zero_le _⟩ (fun H locs zq6 hP hD hS => ?_)
        refine lv_if_ne (tgt := 42) hx hb dX11_change_36 (by decide) (fun c7 => ?_) (fun c7 => ?_)
        · have hf := ob_neg c7 hf
          refine lv_iload_n hx hb dX11_change_42 rfl (lv_at hl 2 rfl) ?_
          refine lv_if_ne (tgt := 55) hx hb dX11_change_43 (by decide) (fun c8 => ?_) (fun c8 => ?_)
          · have hf := ob_neg c8 hf
            refine lv_aload_n hx hb dX11_change_55 rfl (lv_at hl 0 rfl) ?_
            refine va_get (D := D) (ci := 10) (v := .ref a_papers) (C := RX11) (T := TX11) (N := 17) hx hb hts iX11 hown hK hP 0 rfl rfl 2 (by decide) fl13 (fun _ h9 => h9) rfl dX11_change_56 ?_
            refine lv_iload_n hx hb dX11_change_59 rfl (lv_at hl 1 rfl) ?_
            obtain ⟨h9, hf⟩ := og_in hf
            refine va_iald hx hb hK hP 1 0 rfl rfl h9 dX11_change_60 ?_
            refine lv_istore (lv' := [(4, .int (v_papers x1.toNatClampNeg)), (0, .ref a_this), (1, .int x1), (2, .int x2), (3, .int x3)]) hx hb dX11_change_61 hl (by decide) rfl (fun ls hl => ?_)
            refine lv_iload_n hx hb dX11_change_63 rfl (lv_at hl 3 rfl) ?_
            refine lv_if_ne (tgt := 77) hx hb dX11_change_64 (by decide) (fun c10 => ?_) (fun c10 => ?_)
            · have hf := ob_neg c10 hf
              refine lv_aload_n hx hb dX11_change_77 rfl (lv_at hl 1 rfl) ?_
              refine va_get (D := D) (ci := 10) (v := .ref a_papers) (C := RX11) (T := TX11) (N := 17) hx hb hts iX11 hown hK hP 0 rfl rfl 2 (by decide) fl13 (fun _ h9 => h9) rfl dX11_change_78 ?_
              refine lv_iload_n hx hb dX11_change_81 rfl (lv_at hl 2 rfl) ?_
              refine lv_iload_n hx hb dX11_change_82 rfl (lv_at hl 4 rfl) ?_
              obtain ⟨h11, hf⟩ := og_in hf
              refine va_iast hx hb hK hP hD hS 1 0 rfl rfl h11 dX11_change_83 (fun H locs hP hD hS => ?_)
              have hP : va_P D vwCl (wd_X11_change cyI cyJ cyZ a_this a_sets a_papers a_worths a_sign a_hallSign a_chosen a_upper a_lower v_heaps v_seats v_signs v_hallMany v_chosenSet v_paidSeats v_rhoUp v_rhoBy v_breachGroup (upd v_papers x1.toNatClampNeg x3) v_sets) H := hP
              have hD : va_D A (wd_X11_change cyI cyJ cyZ a_this a_sets a_papers a_worths a_sign a_hallSign a_chosen a_upper a_lower v_heaps v_seats v_signs v_hallMany v_chosenSet v_paidSeats v_rhoUp v_rhoBy v_breachGroup (upd v_papers x1.toNatClampNeg x3) v_sets) := hD
              refine lv_iload hx hb dX11_change_84 (lv_at hl 0 rfl) ?_
              obtain rfl := Option.some.inj hf
              exact hret _ _ _ _ dX11_change_86 hP hD hS
            · have hf := ob_pos c10 hf
              refine lv_aload_n hx hb dX11_change_67 rfl (lv_at hl 1 rfl) ?_
              refine va_get (D := D) (ci := 10) (v := .ref a_sets) (C := RX11) (T := TX11) (N := 17) hx hb hts iX11 hown hK hP 0 rfl rfl 1 (by decide) fl7 (fun _ h9 => h9) rfl dX11_change_68 ?_
              refine lv_iload_n hx hb dX11_change_71 rfl (lv_at hl 2 rfl) ?_
              refine lv_iload_n hx hb dX11_change_72 rfl (lv_at hl 4 rfl) ?_
              obtain ⟨h12, hf⟩ := og_in hf
              refine va_iast hx hb hK hP hD hS 2 0 rfl rfl h12 dX11_change_73 (fun H locs hP hD hS => ?_)
              have hP : va_P D vwCl (wd_X11_change cyI cyJ cyZ a_this a_sets a_papers a_worths a_sign a_hallSign a_chosen a_upper a_lower v_heaps v_seats v_signs v_hallMany v_chosenSet v_paidSeats v_rhoUp v_rhoBy v_breachGroup v_papers (upd v_sets x1.toNatClampNeg x3)) H := hP
              have hD : va_D A (wd_X11_change cyI cyJ cyZ a_this a_sets a_papers a_worths a_sign a_hallSign a_chosen a_upper a_lower v_heaps v_seats v_signs v_hallMany v_chosenSet v_paidSeats v_rhoUp v_rhoBy v_breachGroup v_papers (upd v_sets x1.toNatClampNeg x3)) := hD
              refine lv_goto (tgt := 84) hx hb dX11_change_74 (by decide) ?_
              refine lv_iload hx hb dX11_change_84 (lv_at hl 0 rfl) ?_
              obtain rfl := Option.some.inj hf
              exact hret _ _ _ _ dX11_change_86 hP hD hS
          · have hf := ob_pos c8 hf
            refine lv_aload_n hx hb dX11_change_46 rfl (lv_at hl 0 rfl) ?_
            refine va_get (D := D) (ci := 10) (v := .ref a_sets) (C := RX11) (T := TX11) (N := 17) hx hb hts iX11 hown hK hP 0 rfl rfl 1 (by decide) fl7 (fun _ h9 => h9) rfl dX11_change_47 ?_
            refine lv_iload_n hx hb dX11_change_50 rfl (lv_at hl 1 rfl) ?_
            obtain ⟨h13, hf⟩ := og_in hf
            refine va_iald hx hb hK hP 2 0 rfl rfl h13 dX11_change_51 ?_
            refine lv_goto (tgt := 61) hx hb dX11_change_52 (by decide) ?_
            refine lv_istore (lv' := [(4, .int (v_sets x1.toNatClampNeg)), (0, .ref a_this), (1, .int x1), (2, .int x2), (3, .int x3)]) hx hb dX11_change_61 hl (by decide) rfl (fun ls hl => ?_)
            refine lv_iload_n hx hb dX11_change_63 rfl (lv_at hl 3 rfl) ?_
            refine lv_if_ne (tgt := 77) hx hb dX11_change_64 (by decide) (fun c14 => ?_) (fun c14 => ?_)
            · have hf := ob_neg c14 hf
              refine lv_aload_n hx hb dX11_change_77 rfl (lv_at hl 1 rfl) ?_
              refine va_get (D := D) (ci := 10) (v := .ref a_papers) (C := RX11) (T := TX11) (N := 17) hx hb hts iX11 hown hK hP 0 rfl rfl 2 (by decide) fl13 (fun _ h9 => h9) rfl dX11_change_78 ?_
              refine lv_iload_n hx hb dX11_change_81 rfl (lv_at hl 2 rfl) ?_
              refine lv_iload_n hx hb dX11_change_82 rfl (lv_at hl 4 rfl) ?_
              obtain ⟨h15, hf⟩ := og_in hf
              refine va_iast hx hb hK hP hD hS 1 0 rfl rfl h15 dX11_change_83 (fun H locs hP hD hS => ?_)
              have hP : va_P D vwCl (wd_X11_change cyI cyJ cyZ a_this a_sets a_papers a_worths a_sign a_hallSign a_chosen a_upper a_lower v_heaps v_seats v_signs v_hallMany v_chosenSet v_paidSeats v_rhoUp v_rhoBy v_breachGroup (upd v_papers x1.toNatClampNeg x3) v_sets) H := hP
              have hD : va_D A (wd_X11_change cyI cyJ cyZ a_this a_sets a_papers a_worths a_sign a_hallSign a_chosen a_upper a_lower v_heaps v_seats v_signs v_hallMany v_chosenSet v_paidSeats v_rhoUp v_rhoBy v_breachGroup (upd v_papers x1.toNatClampNeg x3) v_sets) := hD
              refine lv_iload hx hb dX11_change_84 (lv_at hl 0 rfl) ?_
              obtain rfl := Option.some.inj hf
              exact hret _ _ _ _ dX11_change_86 hP hD hS
            · have hf := ob_pos c14 hf
              refine lv_aload_n hx hb dX11_change_67 rfl (lv_at hl 1 rfl) ?_
              refine va_get (D := D) (ci := 10) (v := .ref a_sets) (C := RX11) (T := TX11) (N := 17) hx hb hts iX11 hown hK hP 0 rfl rfl 1 (by decide) fl7 (fun _ h9 => h9) rfl dX11_change_68 ?_
              refine lv_iload_n hx hb dX11_change_71 rfl (lv_at hl 2 rfl) ?_
              refine lv_iload_n hx hb dX11_change_72 rfl (lv_at hl 4 rfl) ?_
              obtain ⟨h16, hf⟩ := og_in hf
              refine va_iast hx hb hK hP hD hS 2 0 rfl rfl h16 dX11_change_73 (fun H locs hP hD hS => ?_)
              have hP : va_P D vwCl (wd_X11_change cyI cyJ cyZ a_this a_sets a_papers a_worths a_sign a_hallSign a_chosen a_upper a_lower v_heaps v_seats v_signs v_hallMany v_chosenSet v_paidSeats v_rhoUp v_rhoBy v_breachGroup v_papers (upd v_sets x1.toNatClampNeg x3)) H := hP
              have hD : va_D A (wd_X11_change cyI cyJ cyZ a_this a_sets a_papers a_worths a_sign a_hallSign a_chosen a_upper a_lower v_heaps v_seats v_signs v_hallMany v_chosenSet v_paidSeats v_rhoUp v_rhoBy v_breachGroup v_papers (upd v_sets x1.toNatClampNeg x3)) := hD
              refine lv_goto (tgt := 84) hx hb dX11_change_74 (by decide) ?_
              refine lv_iload hx hb dX11_change_84 (lv_at hl 0 rfl) ?_
              obtain rfl := Option.some.inj hf
              exact hret _ _ _ _ dX11_change_86 hP hD hS
        · have hf := ob_pos c7 hf
          refine lv_bipush (v := (-2 : Int32)) hx hb dX11_change_39 (by decide) ?_
          obtain rfl := Option.some.inj hf
          exact hret _ _ _ _ dX11_change_41 hP hD hS
      · have hf := ob_pos c5 hf
        refine lv_sipush (v := (255 : Int32)) hx hb dX11_change_25 (by decide) ?_
        refine lv_goto (tgt := 33) hx hb dX11_change_28 (by decide) ?_
        obtain ⟨q17, hq17, hf⟩ := ob_bind hf
        refine k_Sz (wo := (wd_X11_change cyI cyJ cyZ a_this a_sets a_papers a_worths a_sign a_hallSign a_chosen a_upper a_lower v_heaps v_seats v_signs v_hallMany v_chosenSet v_paidSeats v_rhoUp v_rhoBy v_breachGroup v_papers v_sets)) (As := [.int x3, .int (1 : Int32), .int (255 : Int32)]) (rest := []) C (c_X11_in l D cyI cyJ cyZ   x3 (1 : Int32) (255 : Int32) q17 hq17) cw42 hP hD hS [] [0, 1, 2] [0, 1, 2] rfl rfl rfl (by decide) rfl rfl hl.1 (Nat.le_of_ble_eq_true rfl) dX11_change_33 ⟨Nat.zero_le _, Nat.zero_le _⟩ (fun H locs zq17 hP hD hS => ?_)
        refine lv_if_ne (tgt := 42) hx hb dX11_change_36 (by decide) (fun c18 => ?_) (fun c18 => ?_)
        · have hf := ob_neg c18 hf
          refine lv_iload_n hx hb dX11_change_42 rfl (lv_at hl 2 rfl) ?_
          refine lv_if_ne (tgt := 55) hx hb dX11_change_43 (by decide) (fun c19 => ?_) (fun c19 => ?_)
          · have hf := ob_neg c19 hf
            refine lv_aload_n hx hb dX11_change_55 rfl (lv_at hl 0 rfl) ?_
            refine va_get (D := D) (ci := 10) (v := .ref a_papers) (C := RX11) (T := TX11) (N := 17) hx hb hts iX11 hown hK hP 0 rfl rfl 2 (by decide) fl13 (fun _ h9 => h9) rfl dX11_change_56 ?_
            refine lv_iload_n hx hb dX11_change_59 rfl (lv_at hl 1 rfl) ?_
            obtain ⟨h20, hf⟩ := og_in hf
            refine va_iald hx hb hK hP 1 0 rfl rfl h20 dX11_change_60 ?_
            refine lv_istore (lv' := [(4, .int (v_papers x1.toNatClampNeg)), (0, .ref a_this), (1, .int x1), (2, .int x2), (3, .int x3)]) hx hb dX11_change_61 hl (by decide) rfl (fun ls hl => ?_)
            refine lv_iload_n hx hb dX11_change_63 rfl (lv_at hl 3 rfl) ?_
            refine lv_if_ne (tgt := 77) hx hb dX11_change_64 (by decide) (fun c21 => ?_) (fun c21 => ?_)
            · have hf := ob_neg c21 hf
              refine lv_aload_n hx hb dX11_change_77 rfl (lv_at hl 1 rfl) ?_
              refine va_get (D := D) (ci := 10) (v := .ref a_papers) (C := RX11) (T := TX11) (N := 17) hx hb hts iX11 hown hK hP 0 rfl rfl 2 (by decide) fl13 (fun _ h9 => h9) rfl dX11_change_78 ?_
              refine lv_iload_n hx hb dX11_change_81 rfl (lv_at hl 2 rfl) ?_
              refine lv_iload_n hx hb dX11_change_82 rfl (lv_at hl 4 rfl) ?_
              obtain ⟨h22, hf⟩ := og_in hf
              refine va_iast hx hb hK hP hD hS 1 0 rfl rfl h22 dX11_change_83 (fun H locs hP hD hS => ?_)
              have hP : va_P D vwCl (wd_X11_change cyI cyJ cyZ a_this a_sets a_papers a_worths a_sign a_hallSign a_chosen a_upper a_lower v_heaps v_seats v_signs v_hallMany v_chosenSet v_paidSeats v_rhoUp v_rhoBy v_breachGroup (upd v_papers x1.toNatClampNeg x3) v_sets) H := hP
              have hD : va_D A (wd_X11_change cyI cyJ cyZ a_this a_sets a_papers a_worths a_sign a_hallSign a_chosen a_upper a_lower v_heaps v_seats v_signs v_hallMany v_chosenSet v_paidSeats v_rhoUp v_rhoBy v_breachGroup (upd v_papers x1.toNatClampNeg x3) v_sets) := hD
              refine lv_iload hx hb dX11_change_84 (lv_at hl 0 rfl) ?_
              obtain rfl := Option.some.inj hf
              exact hret _ _ _ _ dX11_change_86 hP hD hS
            · have hf := ob_pos c21 hf
              refine lv_aload_n hx hb dX11_change_67 rfl (lv_at hl 1 rfl) ?_
              refine va_get (D := D) (ci := 10) (v := .ref a_sets) (C := RX11) (T := TX11) (N := 17) hx hb hts iX11 hown hK hP 0 rfl rfl 1 (by decide) fl7 (fun _ h9 => h9) rfl dX11_change_68 ?_
              refine lv_iload_n hx hb dX11_change_71 rfl (lv_at hl 2 rfl) ?_
              refine lv_iload_n hx hb dX11_change_72 rfl (lv_at hl 4 rfl) ?_
              obtain ⟨h23, hf⟩ := og_in hf
              refine va_iast hx hb hK hP hD hS 2 0 rfl rfl h23 dX11_change_73 (fun H locs hP hD hS => ?_)
              have hP : va_P D vwCl (wd_X11_change cyI cyJ cyZ a_this a_sets a_papers a_worths a_sign a_hallSign a_chosen a_upper a_lower v_heaps v_seats v_signs v_hallMany v_chosenSet v_paidSeats v_rhoUp v_rhoBy v_breachGroup v_papers (upd v_sets x1.toNatClampNeg x3)) H := hP
              have hD : va_D A (wd_X11_change cyI cyJ cyZ a_this a_sets a_papers a_worths a_sign a_hallSign a_chosen a_upper a_lower v_heaps v_seats v_signs v_hallMany v_chosenSet v_paidSeats v_rhoUp v_rhoBy v_breachGroup v_papers (upd v_sets x1.toNatClampNeg x3)) := hD
              refine lv_goto (tgt := 84) hx hb dX11_change_74 (by decide) ?_
              refine lv_iload hx hb dX11_change_84 (lv_at hl 0 rfl) ?_
              obtain rfl := Option.some.inj hf
              exact hret _ _ _ _ dX11_change_86 hP hD hS
          · have hf := ob_pos c19 hf
            refine lv_aload_n hx hb dX11_change_46 rfl (lv_at hl 0 rfl) ?_
            refine va_get (D := D) (ci := 10) (v := .ref a_sets) (C := RX11) (T := TX11) (N := 17) hx hb hts iX11 hown hK hP 0 rfl rfl 1 (by decide) fl7 (fun _ h9 => h9) rfl dX11_change_47 ?_
            refine lv_iload_n hx hb dX11_change_50 rfl (lv_at hl 1 rfl) ?_
            obtain ⟨h24, hf⟩ := og_in hf
            refine va_iald hx hb hK hP 2 0 rfl rfl h24 dX11_change_51 ?_
            refine lv_goto (tgt := 61) hx hb dX11_change_52 (by decide) ?_
            refine lv_istore (lv' := [(4, .int (v_sets x1.toNatClampNeg)), (0, .ref a_this), (1, .int x1), (2, .int x2), (3, .int x3)]) hx hb dX11_change_61 hl (by decide) rfl (fun ls hl => ?_)
            refine lv_iload_n hx hb dX11_change_63 rfl (lv_at hl 3 rfl) ?_
            refine lv_if_ne (tgt := 77) hx hb dX11_change_64 (by decide) (fun c25 => ?_) (fun c25 => ?_)
            · have hf := ob_neg c25 hf
              refine lv_aload_n hx hb dX11_change_77 rfl (lv_at hl 1 rfl) ?_
              refine va_get (D := D) (ci := 10) (v := .ref a_papers) (C := RX11) (T := TX11) (N := 17) hx hb hts iX11 hown hK hP 0 rfl rfl 2 (by decide) fl13 (fun _ h9 => h9) rfl dX11_change_78 ?_
              refine lv_iload_n hx hb dX11_change_81 rfl (lv_at hl 2 rfl) ?_
              refine lv_iload_n hx hb dX11_change_82 rfl (lv_at hl 4 rfl) ?_
              obtain ⟨h26, hf⟩ := og_in hf
              refine va_iast hx hb hK hP hD hS 1 0 rfl rfl h26 dX11_change_83 (fun H locs hP hD hS => ?_)
              have hP : va_P D vwCl (wd_X11_change cyI cyJ cyZ a_this a_sets a_papers a_worths a_sign a_hallSign a_chosen a_upper a_lower v_heaps v_seats v_signs v_hallMany v_chosenSet v_paidSeats v_rhoUp v_rhoBy v_breachGroup (upd v_papers x1.toNatClampNeg x3) v_sets) H := hP
              have hD : va_D A (wd_X11_change cyI cyJ cyZ a_this a_sets a_papers a_worths a_sign a_hallSign a_chosen a_upper a_lower v_heaps v_seats v_signs v_hallMany v_chosenSet v_paidSeats v_rhoUp v_rhoBy v_breachGroup (upd v_papers x1.toNatClampNeg x3) v_sets) := hD
              refine lv_iload hx hb dX11_change_84 (lv_at hl 0 rfl) ?_
              obtain rfl := Option.some.inj hf
              exact hret _ _ _ _ dX11_change_86 hP hD hS
            · have hf := ob_pos c25 hf
              refine lv_aload_n hx hb dX11_change_67 rfl (lv_at hl 1 rfl) ?_
              refine va_get (D := D) (ci := 10) (v := .ref a_sets) (C := RX11) (T := TX11) (N := 17) hx hb hts iX11 hown hK hP 0 rfl rfl 1 (by decide) fl7 (fun _ h9 => h9) rfl dX11_change_68 ?_
              refine lv_iload_n hx hb dX11_change_71 rfl (lv_at hl 2 rfl) ?_
              refine lv_iload_n hx hb dX11_change_72 rfl (lv_at hl 4 rfl) ?_
              obtain ⟨h27, hf⟩ := og_in hf
              refine va_iast hx hb hK hP hD hS 2 0 rfl rfl h27 dX11_change_73 (fun H locs hP hD hS => ?_)
              have hP : va_P D vwCl (wd_X11_change cyI cyJ cyZ a_this a_sets a_papers a_worths a_sign a_hallSign a_chosen a_upper a_lower v_heaps v_seats v_signs v_hallMany v_chosenSet v_paidSeats v_rhoUp v_rhoBy v_breachGroup v_papers (upd v_sets x1.toNatClampNeg x3)) H := hP
              have hD : va_D A (wd_X11_change cyI cyJ cyZ a_this a_sets a_papers a_worths a_sign a_hallSign a_chosen a_upper a_lower v_heaps v_seats v_signs v_hallMany v_chosenSet v_paidSeats v_rhoUp v_rhoBy v_breachGroup v_papers (upd v_sets x1.toNatClampNeg x3)) := hD
              refine lv_goto (tgt := 84) hx hb dX11_change_74 (by decide) ?_
              refine lv_iload hx hb dX11_change_84 (lv_at hl 0 rfl) ?_
              obtain rfl := Option.some.inj hf
              exact hret _ _ _ _ dX11_change_86 hP hD hS
        · have hf := ob_pos c18 hf
          refine lv_bipush (v := (-2 : Int32)) hx hb dX11_change_39 (by decide) ?_
          obtain rfl := Option.some.inj hf
          exact hret _ _ _ _ dX11_change_41 hP hD hS
  · have hf := ob_pos c2 hf
    refine lv_iconst (v := (-1 : Int32)) hx hb dX11_change_8 (by decide) ?_
    obtain rfl := Option.some.inj hf
    exact hret _ _ _ _ dX11_change_9 hP hD hS
abbrev rm_X11_drop : Room := { frames := 0, cells := 0, slots := 0, locals := 0 }
abbrev wd_X11_drop (cyI cyJ cyZ : ClassId) (a_this a_sets a_papers a_worths a_sign a_hallSign a_chosen a_upper a_lower : Nat) (v_heaps : Int32) (v_seats : Int32) (v_signs : Int32) (v_hallMany : Int32) (v_chosenSet : Int32) (v_paidSeats : Int32) (v_rhoUp : Int64) (v_rhoBy : Int64) (v_breachGroup : Int32) : va_W := [(a_this, .inr (10, [.int v_heaps, .ref a_sets, .ref a_papers, .int v_seats, .ref a_worths, .int v_signs, .ref a_sign, .int v_hallMany, .ref a_hallSign, .ref a_chosen, .int v_chosenSet, .int v_paidSeats, .ref a_upper, .ref a_lower, .long v_rhoUp, .long v_rhoBy, .int v_breachGroup]))]
def f_X11_drop (v_heaps : Int32) : Option (Int32 × Int32) := (if v_heaps = 0 then some ((-5 : Int32), v_heaps) else some ((v_heaps - (1 : Int32)), (v_heaps - (1 : Int32))))
set_option maxHeartbeats 4000000 in
set_option maxRecDepth 100000 in
theorem c_X11_drop (l : Launch) (D : va_G) (cyI cyJ cyZ : ClassId) (a_this a_sets a_papers a_worths a_sign a_hallSign a_chosen a_upper a_lower : Nat) (v_heaps : Int32) (v_seats : Int32) (v_signs : Int32) (v_hallMany : Int32) (v_chosenSet : Int32) (v_paidSeats : Int32) (v_rhoUp : Int64) (v_rhoBy : Int64) (v_breachGroup : Int32) (q : Int32 × Int32) (hf : f_X11_drop v_heaps = some q) : kMi l yX11_drop wsX11_drop rm_X11_drop D (kTy cyI cyJ cyZ) [.ref a_this] (wd_X11_drop cyI cyJ cyZ a_this a_sets a_papers a_worths a_sign a_hallSign a_chosen a_upper a_lower v_heaps v_seats v_signs v_hallMany v_chosenSet v_paidSeats v_rhoUp v_rhoBy v_breachGroup) (wd_X11_drop cyI cyJ cyZ a_this a_sets a_papers a_worths a_sign a_hallSign a_chosen a_upper a_lower q.2 v_seats v_signs v_hallMany v_chosenSet v_paidSeats v_rhoUp v_rhoBy v_breachGroup) q.1 := by
  refine kMi_of (cc := cX11_drop) (nL := 1) (own := RX11) (by decide) rfl rfl (Nat.le_of_ble_eq_true rfl) ?_
  intro p e s m below meth c A Q ls C hret hP hD hS hl
  have hl : lv_has ls 1 [(0, .ref a_this)] := hl
  unfold f_X11_drop at hf
  obtain ⟨hx, hb, hml, hown, hts, hK, hA⟩ := id C
  have iX11 : ∀ w ∈ u_ws RX11 TX11 17, w ∈ wsX11_drop := by decide +kernel
  have fl39 := hts (.fieldLink RX11 39 "FairSeatsModel" "heaps" "I") (by decide +kernel)
  refine lv_aload_n hx hb dX11_drop_0 rfl (lv_at hl 0 rfl) ?_
  refine va_get (D := D) (ci := 10) (v := .int v_heaps) (C := RX11) (T := TX11) (N := 17) hx hb hts iX11 hown hK hP 0 rfl rfl 0 (by decide) fl39 (fun _ h9 => h9) rfl dX11_drop_1 ?_
  refine lv_if_ne (tgt := 10) hx hb dX11_drop_4 (by decide) (fun c1 => ?_) (fun c1 => ?_)
  · have hf := ob_neg c1 hf
    refine lv_aload_n hx hb dX11_drop_10 rfl (lv_at hl 0 rfl) ?_
    refine lv_dup hx hb dX11_drop_11 rfl ?_
    refine va_get (D := D) (ci := 10) (v := .int v_heaps) (C := RX11) (T := TX11) (N := 17) hx hb hts iX11 hown hK hP 0 rfl rfl 0 (by decide) fl39 (fun _ h9 => h9) rfl dX11_drop_12 ?_
    refine lv_iconst (v := (1 : Int32)) hx hb dX11_drop_15 (by decide) ?_
    refine lv_isub hx hb dX11_drop_16 ?_
    refine va_put (D := D) (ci := 10) (v := .int (v_heaps - (1 : Int32))) (ty := .int) (C := RX11) (T := TX11) (N := 17) hx hb hts iX11 tyX11 tyX11_ok nmX11 hown hK hP hD hS 0 rfl rfl 0 (by decide) fl39 (fun _ h9 => h9) rfl (by decide +kernel) rfl rfl (Nat.le_of_ble_eq_true rfl) dX11_drop_17 (fun H locs hP hD hS => ?_)
    have hP : va_P D vwCl (wd_X11_drop cyI cyJ cyZ a_this a_sets a_papers a_worths a_sign a_hallSign a_chosen a_upper a_lower (v_heaps - (1 : Int32)) v_seats v_signs v_hallMany v_chosenSet v_paidSeats v_rhoUp v_rhoBy v_breachGroup) H := hP
    have hD : va_D A (wd_X11_drop cyI cyJ cyZ a_this a_sets a_papers a_worths a_sign a_hallSign a_chosen a_upper a_lower (v_heaps - (1 : Int32)) v_seats v_signs v_hallMany v_chosenSet v_paidSeats v_rhoUp v_rhoBy v_breachGroup) := hD
    refine lv_aload_n hx hb dX11_drop_20 rfl (lv_at hl 0 rfl) ?_
    refine va_get (D := D) (ci := 10) (v := .int (v_heaps - (1 : Int32))) (C := RX11) (T := TX11) (N := 17) hx hb hts iX11 hown hK hP 0 rfl rfl 0 (by decide) fl39 (fun _ h9 => h9) rfl dX11_drop_21 ?_
    obtain rfl := Option.some.inj hf
    exact hret _ _ _ _ dX11_drop_24 hP hD hS
  · have hf := ob_pos c1 hf
    refine lv_bipush (v := (-5 : Int32)) hx hb dX11_drop_7 (by decide) ?_
    obtain rfl := Option.some.inj hf
    exact hret _ _ _ _ dX11_drop_9 hP hD hS
abbrev rm_X11_seats : Room := { frames := 1, cells := 0, slots := 0, locals := 22 }
abbrev wd_X11_seats (cyI cyJ cyZ : ClassId) (a_this a_sets a_papers a_worths a_sign a_hallSign a_chosen a_upper a_lower : Nat) (v_heaps : Int32) (v_seats : Int32) (v_signs : Int32) (v_hallMany : Int32) (v_chosenSet : Int32) (v_paidSeats : Int32) (v_rhoUp : Int64) (v_rhoBy : Int64) (v_breachGroup : Int32) : va_W := [(a_this, .inr (10, [.int v_heaps, .ref a_sets, .ref a_papers, .int v_seats, .ref a_worths, .int v_signs, .ref a_sign, .int v_hallMany, .ref a_hallSign, .ref a_chosen, .int v_chosenSet, .int v_paidSeats, .ref a_upper, .ref a_lower, .long v_rhoUp, .long v_rhoBy, .int v_breachGroup]))]
def f_X11_seats (x1 : Int32) (v_seats : Int32) : Option (Int32 × Int32) := (f_X11_in x1 (1 : Int32) (4 : Int32)).bind (fun q1 => (if q1 = 0 then some ((-2 : Int32), v_seats) else some (v_seats, x1)))
set_option maxHeartbeats 4000000 in
set_option maxRecDepth 100000 in
theorem c_X11_seats (l : Launch) (D : va_G) (cyI cyJ cyZ : ClassId) (a_this a_sets a_papers a_worths a_sign a_hallSign a_chosen a_upper a_lower : Nat) (v_heaps : Int32) (v_seats : Int32) (v_signs : Int32) (v_hallMany : Int32) (v_chosenSet : Int32) (v_paidSeats : Int32) (v_rhoUp : Int64) (v_rhoBy : Int64) (v_breachGroup : Int32) (x1 : Int32) (q : Int32 × Int32) (hf : f_X11_seats x1 v_seats = some q) : kMi l yX11_seats wsX11_seats rm_X11_seats D (kTy cyI cyJ cyZ) [.ref a_this, .int x1] (wd_X11_seats cyI cyJ cyZ a_this a_sets a_papers a_worths a_sign a_hallSign a_chosen a_upper a_lower v_heaps v_seats v_signs v_hallMany v_chosenSet v_paidSeats v_rhoUp v_rhoBy v_breachGroup) (wd_X11_seats cyI cyJ cyZ a_this a_sets a_papers a_worths a_sign a_hallSign a_chosen a_upper a_lower v_heaps q.2 v_signs v_hallMany v_chosenSet v_paidSeats v_rhoUp v_rhoBy v_breachGroup) q.1 := by
  refine kMi_of (cc := cX11_seats) (nL := 3) (own := RX11) (by decide) rfl rfl (Nat.le_of_ble_eq_true rfl) ?_
  intro p e s m below meth c A Q ls C hret hP hD hS hl
  have hl : lv_has ls 3 [(0, .ref a_this), (1, .int x1)] := hl
  unfold f_X11_seats at hf
  obtain ⟨hx, hb, hml, hown, hts, hK, hA⟩ := id C
  have iX11 : ∀ w ∈ u_ws RX11 TX11 17, w ∈ wsX11_seats := by decide +kernel
  have fl16 := hts (.fieldLink RX11 16 "FairSeatsModel" "seats" "I") (by decide +kernel)
  have cw42 := va_cwS (R := rm_X11_seats) (rm := rm_X11_in) 3 hts gX11_seats_X11_in rfl rfl rfl (by decide +kernel) ⟨Nat.le_of_ble_eq_true rfl, Nat.le_of_ble_eq_true rfl⟩
  refine lv_iload_n hx hb dX11_seats_0 rfl (lv_at hl 1 rfl) ?_
  refine lv_iconst (v := (1 : Int32)) hx hb dX11_seats_1 (by decide) ?_
  refine lv_iconst (v := (4 : Int32)) hx hb dX11_seats_2 (by decide) ?_
  obtain ⟨q1, hq1, hf⟩ := ob_bind hf
  refine k_Sz (wo := (wd_X11_seats cyI cyJ cyZ a_this a_sets a_papers a_worths a_sign a_hallSign a_chosen a_upper a_lower v_heaps v_seats v_signs v_hallMany v_chosenSet v_paidSeats v_rhoUp v_rhoBy v_breachGroup)) (As := [.int x1, .int (1 : Int32), .int (4 : Int32)]) (rest := []) C (c_X11_in l D cyI cyJ cyZ   x1 (1 : Int32) (4 : Int32) q1 hq1) cw42 hP hD hS [] [0] [0] rfl rfl rfl (by decide) rfl rfl hl.1 (Nat.le_of_ble_eq_true rfl) dX11_seats_3 ⟨Nat.zero_le _, Nat.zero_le _⟩ (fun H locs zq1 hP hD hS => ?_)
  refine lv_if_ne (tgt := 12) hx hb dX11_seats_6 (by decide) (fun c2 => ?_) (fun c2 => ?_)
  · have hf := ob_neg c2 hf
    refine lv_aload_n hx hb dX11_seats_12 rfl (lv_at hl 0 rfl) ?_
    refine va_get (D := D) (ci := 10) (v := .int v_seats) (C := RX11) (T := TX11) (N := 17) hx hb hts iX11 hown hK hP 0 rfl rfl 3 (by decide) fl16 (fun _ h9 => h9) rfl dX11_seats_13 ?_
    refine lv_istore_n (lv' := [(2, .int v_seats), (0, .ref a_this), (1, .int x1)]) hx hb dX11_seats_16 rfl hl (by decide) rfl (fun ls hl => ?_)
    refine lv_aload_n hx hb dX11_seats_17 rfl (lv_at hl 1 rfl) ?_
    refine lv_iload_n hx hb dX11_seats_18 rfl (lv_at hl 2 rfl) ?_
    refine va_put (D := D) (ci := 10) (v := .int x1) (ty := .int) (C := RX11) (T := TX11) (N := 17) hx hb hts iX11 tyX11 tyX11_ok nmX11 hown hK hP hD hS 0 rfl rfl 3 (by decide) fl16 (fun _ h9 => h9) rfl (by decide +kernel) rfl rfl (Nat.le_of_ble_eq_true rfl) dX11_seats_19 (fun H locs hP hD hS => ?_)
    have hP : va_P D vwCl (wd_X11_seats cyI cyJ cyZ a_this a_sets a_papers a_worths a_sign a_hallSign a_chosen a_upper a_lower v_heaps x1 v_signs v_hallMany v_chosenSet v_paidSeats v_rhoUp v_rhoBy v_breachGroup) H := hP
    have hD : va_D A (wd_X11_seats cyI cyJ cyZ a_this a_sets a_papers a_worths a_sign a_hallSign a_chosen a_upper a_lower v_heaps x1 v_signs v_hallMany v_chosenSet v_paidSeats v_rhoUp v_rhoBy v_breachGroup) := hD
    refine lv_iload_n hx hb dX11_seats_22 rfl (lv_at hl 0 rfl) ?_
    obtain rfl := Option.some.inj hf
    exact hret _ _ _ _ dX11_seats_23 hP hD hS
  · have hf := ob_pos c2 hf
    refine lv_bipush (v := (-2 : Int32)) hx hb dX11_seats_9 (by decide) ?_
    obtain rfl := Option.some.inj hf
    exact hret _ _ _ _ dX11_seats_11 hP hD hS
abbrev rm_X11_worth : Room := { frames := 1, cells := 0, slots := 0, locals := 22 }
abbrev wd_X11_worth (cyI cyJ cyZ : ClassId) (a_this a_sets a_papers a_worths a_sign a_hallSign a_chosen a_upper a_lower : Nat) (v_heaps : Int32) (v_seats : Int32) (v_signs : Int32) (v_hallMany : Int32) (v_chosenSet : Int32) (v_paidSeats : Int32) (v_rhoUp : Int64) (v_rhoBy : Int64) (v_breachGroup : Int32) (v_worths : Nat → Int32) : va_W := [(a_this, .inr (10, [.int v_heaps, .ref a_sets, .ref a_papers, .int v_seats, .ref a_worths, .int v_signs, .ref a_sign, .int v_hallMany, .ref a_hallSign, .ref a_chosen, .int v_chosenSet, .int v_paidSeats, .ref a_upper, .ref a_lower, .long v_rhoUp, .long v_rhoBy, .int v_breachGroup])), (a_worths, .inl (cyI, 4, .inl v_worths))]
def f_X11_worth (x1 : Int32) (x2 : Int32) (v_worths : Nat → Int32) : Option (Int32 × (Nat → Int32)) := (f_X11_in x1 (0 : Int32) (3 : Int32)).bind (fun q1 => (if q1 = 0 then some ((-2 : Int32), v_worths) else (if (3 : Int32) ≤ x1 then (if x1 ≤ 0 then (f_X11_in x2 (0 : Int32) (60 : Int32)).bind (fun q5 => (if q5 = 0 then some ((-2 : Int32), v_worths) else (if ob_in x1 4 = true then (if ob_in x1 4 = true then some ((v_worths x1.toNatClampNeg), (upd v_worths x1.toNatClampNeg x2)) else none) else none))) else (if ob_in (x1 - (1 : Int32)) 4 = true then (f_X11_in x2 (0 : Int32) (v_worths (x1 - (1 : Int32)).toNatClampNeg)).bind (fun q10 => (if q10 = 0 then some ((-2 : Int32), v_worths) else (if ob_in x1 4 = true then (if ob_in x1 4 = true then some ((v_worths x1.toNatClampNeg), (upd v_worths x1.toNatClampNeg x2)) else none) else none))) else none)) else (if ob_in (x1 + (1 : Int32)) 4 = true then (if x1 ≤ 0 then (f_X11_in x2 (v_worths (x1 + (1 : Int32)).toNatClampNeg) (60 : Int32)).bind (fun q16 => (if q16 = 0 then some ((-2 : Int32), v_worths) else (if ob_in x1 4 = true then (if ob_in x1 4 = true then some ((v_worths x1.toNatClampNeg), (upd v_worths x1.toNatClampNeg x2)) else none) else none))) else (if ob_in (x1 - (1 : Int32)) 4 = true then (f_X11_in x2 (v_worths (x1 + (1 : Int32)).toNatClampNeg) (v_worths (x1 - (1 : Int32)).toNatClampNeg)).bind (fun q21 => (if q21 = 0 then some ((-2 : Int32), v_worths) else (if ob_in x1 4 = true then (if ob_in x1 4 = true then some ((v_worths x1.toNatClampNeg), (upd v_worths x1.toNatClampNeg x2)) else none) else none))) else none)) else none))))
set_option maxHeartbeats 4000000 in
set_option maxRecDepth 100000 in
theorem c_X11_worth (l : Launch) (D : va_G) (cyI cyJ cyZ : ClassId) (a_this a_sets a_papers a_worths a_sign a_hallSign a_chosen a_upper a_lower : Nat) (v_heaps : Int32) (v_seats : Int32) (v_signs : Int32) (v_hallMany : Int32) (v_chosenSet : Int32) (v_paidSeats : Int32) (v_rhoUp : Int64) (v_rhoBy : Int64) (v_breachGroup : Int32) (v_worths : Nat → Int32) (x1 : Int32) (x2 : Int32) (q : Int32 × (Nat → Int32)) (hf : f_X11_worth x1 x2 v_worths = some q) : kMi l yX11_worth wsX11_worth rm_X11_worth D (kTy cyI cyJ cyZ) [.ref a_this, .int x1, .int x2] (wd_X11_worth cyI cyJ cyZ a_this a_sets a_papers a_worths a_sign a_hallSign a_chosen a_upper a_lower v_heaps v_seats v_signs v_hallMany v_chosenSet v_paidSeats v_rhoUp v_rhoBy v_breachGroup v_worths) (wd_X11_worth cyI cyJ cyZ a_this a_sets a_papers a_worths a_sign a_hallSign a_chosen a_upper a_lower v_heaps v_seats v_signs v_hallMany v_chosenSet v_paidSeats v_rhoUp v_rhoBy v_breachGroup q.2) q.1 := by
  refine kMi_of (cc := cX11_worth) (nL := 4) (own := RX11) (by decide) rfl rfl (Nat.le_of_ble_eq_true rfl) ?_
  intro p e s m below meth c A Q ls C hret hP hD hS hl
  have hl : lv_has ls 4 [(0, .ref a_this), (1, .int x1), (2, .int x2)] := hl
  unfold f_X11_worth at hf
  obtain ⟨hx, hb, hml, hown, hts, hK, hA⟩ := id C
  have iX11 : ∀ w ∈ u_ws RX11 TX11 17, w ∈ wsX11_worth := by decide +kernel
  have fl20 := hts (.fieldLink RX11 20 "FairSeatsModel" "worths" "[I") (by decide +kernel)
  have cw42 := va_cwS (R := rm_X11_worth) (rm := rm_X11_in) 3 hts gX11_worth_X11_in rfl rfl rfl (by decide +kernel) ⟨Nat.le_of_ble_eq_true rfl, Nat.le_of_ble_eq_true rfl⟩
  refine lv_iload_n hx hb dX11_worth_0 rfl (lv_at hl 1 rfl) ?_
  refine lv_iconst (v := (0 : Int32)) hx hb dX11_worth_1 (by decide) ?_
  refine lv_iconst (v := (3 : Int32)) hx hb dX11_worth_2 (by decide) ?_
  obtain ⟨q1, hq1, hf⟩ := ob_bind hf
  refine k_Sz (wo := (wd_X11_worth cyI cyJ cyZ a_this a_sets a_papers a_worths a_sign a_hallSign a_chosen a_upper a_lower v_heaps v_seats v_signs v_hallMany v_chosenSet v_paidSeats v_rhoUp v_rhoBy v_breachGroup v_worths)) (As := [.int x1, .int (0 : Int32), .int (3 : Int32)]) (rest := []) C (c_X11_in l D cyI cyJ cyZ   x1 (0 : Int32) (3 : Int32) q1 hq1) cw42 hP hD hS [] [0, 1] [0, 1] rfl rfl rfl (by decide) rfl rfl hl.1 (Nat.le_of_ble_eq_true rfl) dX11_worth_3 ⟨Nat.zero_le _, Nat.zero_le _⟩ (fun H locs zq1 hP hD hS => ?_)
  refine lv_if_eq (tgt := 50) hx hb dX11_worth_6 (by decide) (fun c2 => ?_) (fun c2 => ?_)
  · have hf := ob_pos c2 hf
    refine lv_bipush (v := (-2 : Int32)) hx hb dX11_worth_50 (by decide) ?_
    obtain rfl := Option.some.inj hf
    exact hret _ _ _ _ dX11_worth_52 hP hD hS
  · have hf := ob_neg c2 hf
    refine lv_iload_n hx hb dX11_worth_9 rfl (lv_at hl 2 rfl) ?_
    refine lv_iload_n hx hb dX11_worth_10 rfl (lv_at hl 1 rfl) ?_
    refine lv_iconst (v := (3 : Int32)) hx hb dX11_worth_11 (by decide) ?_
    refine lv_icmp_ge (tgt := 26) hx hb dX11_worth_12 (by decide) (fun c3 => ?_) (fun c3 => ?_)
    · have hf := ob_pos c3 hf
      refine lv_iconst (v := (0 : Int32)) hx hb dX11_worth_26 (by decide) ?_
      refine lv_iload_n hx hb dX11_worth_27 rfl (lv_at hl 1 rfl) ?_
      refine lv_if_le (tgt := 42) hx hb dX11_worth_28 (by decide) (fun c4 => ?_) (fun c4 => ?_)
      · have hf := ob_pos c4 hf
        refine lv_bipush (v := (60 : Int32)) hx hb dX11_worth_42 (by decide) ?_
        obtain ⟨q5, hq5, hf⟩ := ob_bind hf
        refine k_Sz (wo := (wd_X11_worth cyI cyJ cyZ a_this a_sets a_papers a_worths a_sign a_hallSign a_chosen a_upper a_lower v_heaps v_seats v_signs v_hallMany v_chosenSet v_paidSeats v_rhoUp v_rhoBy v_breachGroup v_worths)) (As := [.int x2, .int (0 : Int32), .int (60 : Int32)]) (rest := []) C (c_X11_in l D cyI cyJ cyZ   x2 (0 : Int32) (60 : Int32) q5 hq5) cw42 hP hD hS [] [0, 1] [0, 1] rfl rfl rfl (by decide) rfl rfl hl.1 (Nat.le_of_ble_eq_true rfl) dX11_worth_44 ⟨Nat.zero_le _, Nat.zero_le _⟩ (fun H locs zq5 hP hD hS => ?_)
        refine lv_if_ne (tgt := 53) hx hb dX11_worth_47 (by decide) (fun c6 => ?_) (fun c6 => ?_)
        · have hf := ob_neg c6 hf
          refine lv_aload_n hx hb dX11_worth_53 rfl (lv_at hl 0 rfl) ?_
          refine va_get (D := D) (ci := 10) (v := .ref a_worths) (C := RX11) (T := TX11) (N := 17) hx hb hts iX11 hown hK hP 0 rfl rfl 4 (by decide) fl20 (fun _ h9 => h9) rfl dX11_worth_54 ?_
          refine lv_iload_n hx hb dX11_worth_57 rfl (lv_at hl 1 rfl) ?_
          obtain ⟨h7, hf⟩ := og_in hf
          refine va_iald hx hb hK hP 1 0 rfl rfl h7 dX11_worth_58 ?_
          refine lv_istore_n (lv' := [(3, .int (v_worths x1.toNatClampNeg)), (0, .ref a_this), (1, .int x1), (2, .int x2)]) hx hb dX11_worth_59 rfl hl (by decide) rfl (fun ls hl => ?_)
          refine lv_aload_n hx hb dX11_worth_60 rfl (lv_at hl 1 rfl) ?_
          refine va_get (D := D) (ci := 10) (v := .ref a_worths) (C := RX11) (T := TX11) (N := 17) hx hb hts iX11 hown hK hP 0 rfl rfl 4 (by decide) fl20 (fun _ h9 => h9) rfl dX11_worth_61 ?_
          refine lv_iload_n hx hb dX11_worth_64 rfl (lv_at hl 2 rfl) ?_
          refine lv_iload_n hx hb dX11_worth_65 rfl (lv_at hl 3 rfl) ?_
          obtain ⟨h8, hf⟩ := og_in hf
          refine va_iast hx hb hK hP hD hS 1 0 rfl rfl h8 dX11_worth_66 (fun H locs hP hD hS => ?_)
          have hP : va_P D vwCl (wd_X11_worth cyI cyJ cyZ a_this a_sets a_papers a_worths a_sign a_hallSign a_chosen a_upper a_lower v_heaps v_seats v_signs v_hallMany v_chosenSet v_paidSeats v_rhoUp v_rhoBy v_breachGroup (upd v_worths x1.toNatClampNeg x2)) H := hP
          have hD : va_D A (wd_X11_worth cyI cyJ cyZ a_this a_sets a_papers a_worths a_sign a_hallSign a_chosen a_upper a_lower v_heaps v_seats v_signs v_hallMany v_chosenSet v_paidSeats v_rhoUp v_rhoBy v_breachGroup (upd v_worths x1.toNatClampNeg x2)) := hD
          refine lv_iload_n hx hb dX11_worth_67 rfl (lv_at hl 0 rfl) ?_
          obtain rfl := Option.some.inj hf
          exact hret _ _ _ _ dX11_worth_68 hP hD hS
        · have hf := ob_pos c6 hf
          refine lv_bipush (v := (-2 : Int32)) hx hb dX11_worth_50 (by decide) ?_
          obtain rfl := Option.some.inj hf
          exact hret _ _ _ _ dX11_worth_52 hP hD hS
      · have hf := ob_neg c4 hf
        refine lv_aload_n hx hb dX11_worth_31 rfl (lv_at hl 0 rfl) ?_
        refine va_get (D := D) (ci := 10) (v := .ref a_worths) (C := RX11) (T := TX11) (N := 17) hx hb hts iX11 hown hK hP 0 rfl rfl 4 (by decide) fl20 (fun _ h9 => h9) rfl dX11_worth_32 ?_
        refine lv_iload_n hx hb dX11_worth_35 rfl (lv_at hl 1 rfl) ?_
        refine lv_iconst (v := (1 : Int32)) hx hb dX11_worth_36 (by decide) ?_
        refine lv_isub hx hb dX11_worth_37 ?_
        obtain ⟨h9, hf⟩ := og_in hf
        refine va_iald hx hb hK hP 1 0 rfl rfl h9 dX11_worth_38 ?_
        refine lv_goto (tgt := 44) hx hb dX11_worth_39 (by decide) ?_
        obtain ⟨q10, hq10, hf⟩ := ob_bind hf
        refine k_Sz (wo := (wd_X11_worth cyI cyJ cyZ a_this a_sets a_papers a_worths a_sign a_hallSign a_chosen a_upper a_lower v_heaps v_seats v_signs v_hallMany v_chosenSet v_paidSeats v_rhoUp v_rhoBy v_breachGroup v_worths)) (As := [.int x2, .int (0 : Int32), .int (v_worths (x1 - (1 : Int32)).toNatClampNeg)]) (rest := []) C (c_X11_in l D cyI cyJ cyZ   x2 (0 : Int32) (v_worths (x1 - (1 : Int32)).toNatClampNeg) q10 hq10) cw42 hP hD hS [] [0, 1] [0, 1] rfl rfl rfl (by decide) rfl rfl hl.1 (Nat.le_of_ble_eq_true rfl) dX11_worth_44 ⟨Nat.zero_le _, Nat.zero_le _⟩ (fun H locs zq10 hP hD hS => ?_)
        refine lv_if_ne (tgt := 53) hx hb dX11_worth_47 (by decide) (fun c11 => ?_) (fun c11 => ?_)
        · have hf := ob_neg c11 hf
          refine lv_aload_n hx hb dX11_worth_53 rfl (lv_at hl 0 rfl) ?_
          refine va_get (D := D) (ci := 10) (v := .ref a_worths) (C := RX11) (T := TX11) (N := 17) hx hb hts iX11 hown hK hP 0 rfl rfl 4 (by decide) fl20 (fun _ h9 => h9) rfl dX11_worth_54 ?_
          refine lv_iload_n hx hb dX11_worth_57 rfl (lv_at hl 1 rfl) ?_
          obtain ⟨h12, hf⟩ := og_in hf
          refine va_iald hx hb hK hP 1 0 rfl rfl h12 dX11_worth_58 ?_
          refine lv_istore_n (lv' := [(3, .int (v_worths x1.toNatClampNeg)), (0, .ref a_this), (1, .int x1), (2, .int x2)]) hx hb dX11_worth_59 rfl hl (by decide) rfl (fun ls hl => ?_)
          refine lv_aload_n hx hb dX11_worth_60 rfl (lv_at hl 1 rfl) ?_
          refine va_get (D := D) (ci := 10) (v := .ref a_worths) (C := RX11) (T := TX11) (N := 17) hx hb hts iX11 hown hK hP 0 rfl rfl 4 (by decide) fl20 (fun _ h9 => h9) rfl dX11_worth_61 ?_
          refine lv_iload_n hx hb dX11_worth_64 rfl (lv_at hl 2 rfl) ?_
          refine lv_iload_n hx hb dX11_worth_65 rfl (lv_at hl 3 rfl) ?_
          obtain ⟨h13, hf⟩ := og_in hf
          refine va_iast hx hb hK hP hD hS 1 0 rfl rfl h13 dX11_worth_66 (fun H locs hP hD hS => ?_)
          have hP : va_P D vwCl (wd_X11_worth cyI cyJ cyZ a_this a_sets a_papers a_worths a_sign a_hallSign a_chosen a_upper a_lower v_heaps v_seats v_signs v_hallMany v_chosenSet v_paidSeats v_rhoUp v_rhoBy v_breachGroup (upd v_worths x1.toNatClampNeg x2)) H := hP
          have hD : va_D A (wd_X11_worth cyI cyJ cyZ a_this a_sets a_papers a_worths a_sign a_hallSign a_chosen a_upper a_lower v_heaps v_seats v_signs v_hallMany v_chosenSet v_paidSeats v_rhoUp v_rhoBy v_breachGroup (upd v_worths x1.toNatClampNeg x2)) := hD
          refine lv_iload_n hx hb dX11_worth_67 rfl (lv_at hl 0 rfl) ?_
          obtain rfl := Option.some.inj hf
          exact hret _ _ _ _ dX11_worth_68 hP hD hS
        · have hf := ob_pos c11 hf
          refine lv_bipush (v := (-2 : Int32)) hx hb dX11_worth_50 (by decide) ?_
          obtain rfl := Option.some.inj hf
          exact hret _ _ _ _ dX11_worth_52 hP hD hS
    · have hf := ob_neg c3 hf
      refine lv_aload_n hx hb dX11_worth_15 rfl (lv_at hl 0 rfl) ?_
      refine va_get (D := D) (ci := 10) (v := .ref a_worths) (C := RX11) (T := TX11) (N := 17) hx hb hts iX11 hown hK hP 0 rfl rfl 4 (by decide) fl20 (fun _ h9 => h9) rfl dX11_worth_16 ?_
      refine lv_iload_n hx hb dX11_worth_19 rfl (lv_at hl 1 rfl) ?_
      refine lv_iconst (v := (1 : Int32)) hx hb dX11_worth_20 (by decide) ?_
      refine lv_iadd hx hb dX11_worth_21 ?_
      obtain ⟨h14, hf⟩ := og_in hf
      refine va_iald hx hb hK hP 1 0 rfl rfl h14 dX11_worth_22 ?_
      refine lv_goto (tgt := 27) hx hb dX11_worth_23 (by decide) ?_
      refine lv_iload_n hx hb dX11_worth_27 rfl (lv_at hl 1 rfl) ?_
      refine lv_if_le (tgt := 42) hx hb dX11_worth_28 (by decide) (fun c15 => ?_) (fun c15 => ?_)
      · have hf := ob_pos c15 hf
        refine lv_bipush (v := (60 : Int32)) hx hb dX11_worth_42 (by decide) ?_
        obtain ⟨q16, hq16, hf⟩ := ob_bind hf
        refine k_Sz (wo := (wd_X11_worth cyI cyJ cyZ a_this a_sets a_papers a_worths a_sign a_hallSign a_chosen a_upper a_lower v_heaps v_seats v_signs v_hallMany v_chosenSet v_paidSeats v_rhoUp v_rhoBy v_breachGroup v_worths)) (As := [.int x2, .int (v_worths (x1 + (1 : Int32)).toNatClampNeg), .int (60 : Int32)]) (rest := []) C (c_X11_in l D cyI cyJ cyZ   x2 (v_worths (x1 + (1 : Int32)).toNatClampNeg) (60 : Int32) q16 hq16) cw42 hP hD hS [] [0, 1] [0, 1] rfl rfl rfl (by decide) rfl rfl hl.1 (Nat.le_of_ble_eq_true rfl) dX11_worth_44 ⟨Nat.zero_le _, Nat.zero_le _⟩ (fun H locs zq16 hP hD hS => ?_)
        refine lv_if_ne (tgt := 53) hx hb dX11_worth_47 (by decide) (fun c17 => ?_) (fun c17 => ?_)
        · have hf := ob_neg c17 hf
          refine lv_aload_n hx hb dX11_worth_53 rfl (lv_at hl 0 rfl) ?_
          refine va_get (D := D) (ci := 10) (v := .ref a_worths) (C := RX11) (T := TX11) (N := 17) hx hb hts iX11 hown hK hP 0 rfl rfl 4 (by decide) fl20 (fun _ h9 => h9) rfl dX11_worth_54 ?_
          refine lv_iload_n hx hb dX11_worth_57 rfl (lv_at hl 1 rfl) ?_
          obtain ⟨h18, hf⟩ := og_in hf
          refine va_iald hx hb hK hP 1 0 rfl rfl h18 dX11_worth_58 ?_
          refine lv_istore_n (lv' := [(3, .int (v_worths x1.toNatClampNeg)), (0, .ref a_this), (1, .int x1), (2, .int x2)]) hx hb dX11_worth_59 rfl hl (by decide) rfl (fun ls hl => ?_)
          refine lv_aload_n hx hb dX11_worth_60 rfl (lv_at hl 1 rfl) ?_
          refine va_get (D := D) (ci := 10) (v := .ref a_worths) (C := RX11) (T := TX11) (N := 17) hx hb hts iX11 hown hK hP 0 rfl rfl 4 (by decide) fl20 (fun _ h9 => h9) rfl dX11_worth_61 ?_
          refine lv_iload_n hx hb dX11_worth_64 rfl (lv_at hl 2 rfl) ?_
          refine lv_iload_n hx hb dX11_worth_65 rfl (lv_at hl 3 rfl) ?_
          obtain ⟨h19, hf⟩ := og_in hf
          refine va_iast hx hb hK hP hD hS 1 0 rfl rfl h19 dX11_worth_66 (fun H locs hP hD hS => ?_)
          have hP : va_P D vwCl (wd_X11_worth cyI cyJ cyZ a_this a_sets a_papers a_worths a_sign a_hallSign a_chosen a_upper a_lower v_heaps v_seats v_signs v_hallMany v_chosenSet v_paidSeats v_rhoUp v_rhoBy v_breachGroup (upd v_worths x1.toNatClampNeg x2)) H := hP
          have hD : va_D A (wd_X11_worth cyI cyJ cyZ a_this a_sets a_papers a_worths a_sign a_hallSign a_chosen a_upper a_lower v_heaps v_seats v_signs v_hallMany v_chosenSet v_paidSeats v_rhoUp v_rhoBy v_breachGroup (upd v_worths x1.toNatClampNeg x2)) := hD
          refine lv_iload_n hx hb dX11_worth_67 rfl (lv_at hl 0 rfl) ?_
          obtain rfl := Option.some.inj hf
          exact hret _ _ _ _ dX11_worth_68 hP hD hS
        · have hf := ob_pos c17 hf
          refine lv_bipush (v := (-2 : Int32)) hx hb dX11_worth_50 (by decide) ?_
          obtain rfl := Option.some.inj hf
          exact hret _ _ _ _ dX11_worth_52 hP hD hS
      · have hf := ob_neg c15 hf
        refine lv_aload_n hx hb dX11_worth_31 rfl (lv_at hl 0 rfl) ?_
        refine va_get (D := D) (ci := 10) (v := .ref a_worths) (C := RX11) (T := TX11) (N := 17) hx hb hts iX11 hown hK hP 0 rfl rfl 4 (by decide) fl20 (fun _ h9 => h9) rfl dX11_worth_32 ?_
        refine lv_iload_n hx hb dX11_worth_35 rfl (lv_at hl 1 rfl) ?_
        refine lv_iconst (v := (1 : Int32)) hx hb dX11_worth_36 (by decide) ?_
        refine lv_isub hx hb dX11_worth_37 ?_
        obtain ⟨h20, hf⟩ := og_in hf
        refine va_iald hx hb hK hP 1 0 rfl rfl h20 dX11_worth_38 ?_
        refine lv_goto (tgt := 44) hx hb dX11_worth_39 (by decide) ?_
        obtain ⟨q21, hq21, hf⟩ := ob_bind hf
        refine k_Sz (wo := (wd_X11_worth cyI cyJ cyZ a_this a_sets a_papers a_worths a_sign a_hallSign a_chosen a_upper a_lower v_heaps v_seats v_signs v_hallMany v_chosenSet v_paidSeats v_rhoUp v_rhoBy v_breachGroup v_worths)) (As := [.int x2, .int (v_worths (x1 + (1 : Int32)).toNatClampNeg), .int (v_worths (x1 - (1 : Int32)).toNatClampNeg)]) (rest := []) C (c_X11_in l D cyI cyJ cyZ   x2 (v_worths (x1 + (1 : Int32)).toNatClampNeg) (v_worths (x1 - (1 : Int32)).toNatClampNeg) q21 hq21) cw42 hP hD hS [] [0, 1] [0, 1] rfl rfl rfl (by decide) rfl rfl hl.1 (Nat.le_of_ble_eq_true rfl) dX11_worth_44 ⟨Nat.zero_le _, Nat.zero_le _⟩ (fun H locs zq21 hP hD hS => ?_)
        refine lv_if_ne (tgt := 53) hx hb dX11_worth_47 (by decide) (fun c22 => ?_) (fun c22 => ?_)
        · have hf := ob_neg c22 hf
          refine lv_aload_n hx hb dX11_worth_53 rfl (lv_at hl 0 rfl) ?_
          refine va_get (D := D) (ci := 10) (v := .ref a_worths) (C := RX11) (T := TX11) (N := 17) hx hb hts iX11 hown hK hP 0 rfl rfl 4 (by decide) fl20 (fun _ h9 => h9) rfl dX11_worth_54 ?_
          refine lv_iload_n hx hb dX11_worth_57 rfl (lv_at hl 1 rfl) ?_
          obtain ⟨h23, hf⟩ := og_in hf
          refine va_iald hx hb hK hP 1 0 rfl rfl h23 dX11_worth_58 ?_
          refine lv_istore_n (lv' := [(3, .int (v_worths x1.toNatClampNeg)), (0, .ref a_this), (1, .int x1), (2, .int x2)]) hx hb dX11_worth_59 rfl hl (by decide) rfl (fun ls hl => ?_)
          refine lv_aload_n hx hb dX11_worth_60 rfl (lv_at hl 1 rfl) ?_
          refine va_get (D := D) (ci := 10) (v := .ref a_worths) (C := RX11) (T := TX11) (N := 17) hx hb hts iX11 hown hK hP 0 rfl rfl 4 (by decide) fl20 (fun _ h9 => h9) rfl dX11_worth_61 ?_
          refine lv_iload_n hx hb dX11_worth_64 rfl (lv_at hl 2 rfl) ?_
          refine lv_iload_n hx hb dX11_worth_65 rfl (lv_at hl 3 rfl) ?_
          obtain ⟨h24, hf⟩ := og_in hf
          refine va_iast hx hb hK hP hD hS 1 0 rfl rfl h24 dX11_worth_66 (fun H locs hP hD hS => ?_)
          have hP : va_P D vwCl (wd_X11_worth cyI cyJ cyZ a_this a_sets a_papers a_worths a_sign a_hallSign a_chosen a_upper a_lower v_heaps v_seats v_signs v_hallMany v_chosenSet v_paidSeats v_rhoUp v_rhoBy v_breachGroup (upd v_worths x1.toNatClampNeg x2)) H := hP
          have hD : va_D A (wd_X11_worth cyI cyJ cyZ a_this a_sets a_papers a_worths a_sign a_hallSign a_chosen a_upper a_lower v_heaps v_seats v_signs v_hallMany v_chosenSet v_paidSeats v_rhoUp v_rhoBy v_breachGroup (upd v_worths x1.toNatClampNeg x2)) := hD
          refine lv_iload_n hx hb dX11_worth_67 rfl (lv_at hl 0 rfl) ?_
          obtain rfl := Option.some.inj hf
          exact hret _ _ _ _ dX11_worth_68 hP hD hS
        · have hf := ob_pos c22 hf
          refine lv_bipush (v := (-2 : Int32)) hx hb dX11_worth_50 (by decide) ?_
          obtain rfl := Option.some.inj hf
          exact hret _ _ _ _ dX11_worth_52 hP hD hS
abbrev rm_X11_say : Room := { frames := 1, cells := 0, slots := 0, locals := 22 }
abbrev wd_X11_say (cyI cyJ cyZ : ClassId) (a_this a_sets a_papers a_worths a_sign a_hallSign a_chosen a_upper a_lower : Nat) (v_heaps : Int32) (v_seats : Int32) (v_signs : Int32) (v_hallMany : Int32) (v_chosenSet : Int32) (v_paidSeats : Int32) (v_rhoUp : Int64) (v_rhoBy : Int64) (v_breachGroup : Int32) (v_sign : Nat → Int32) : va_W := [(a_this, .inr (10, [.int v_heaps, .ref a_sets, .ref a_papers, .int v_seats, .ref a_worths, .int v_signs, .ref a_sign, .int v_hallMany, .ref a_hallSign, .ref a_chosen, .int v_chosenSet, .int v_paidSeats, .ref a_upper, .ref a_lower, .long v_rhoUp, .long v_rhoBy, .int v_breachGroup])), (a_sign, .inl (cyI, 40, .inl v_sign))]
def f_X11_say (x1 : Int32) (v_signs : Int32) (v_sign : Nat → Int32) : Option (Int32 × Int32 × (Nat → Int32)) := (f_X11_in x1 (33 : Int32) (126 : Int32)).bind (fun q1 => (if q1 = 0 then some ((-2 : Int32), v_signs, v_sign) else (if v_signs = (40 : Int32) then some ((-4 : Int32), v_signs, v_sign) else (if ob_in v_signs 40 = true then some ((v_signs + (1 : Int32)), (v_signs + (1 : Int32)), (upd v_sign v_signs.toNatClampNeg x1)) else none))))
set_option maxHeartbeats 4000000 in
set_option maxRecDepth 100000 in
theorem c_X11_say (l : Launch) (D : va_G) (cyI cyJ cyZ : ClassId) (a_this a_sets a_papers a_worths a_sign a_hallSign a_chosen a_upper a_lower : Nat) (v_heaps : Int32) (v_seats : Int32) (v_signs : Int32) (v_hallMany : Int32) (v_chosenSet : Int32) (v_paidSeats : Int32) (v_rhoUp : Int64) (v_rhoBy : Int64) (v_breachGroup : Int32) (v_sign : Nat → Int32) (x1 : Int32) (q : Int32 × Int32 × (Nat → Int32)) (hf : f_X11_say x1 v_signs v_sign = some q) : kMi l yX11_say wsX11_say rm_X11_say D (kTy cyI cyJ cyZ) [.ref a_this, .int x1] (wd_X11_say cyI cyJ cyZ a_this a_sets a_papers a_worths a_sign a_hallSign a_chosen a_upper a_lower v_heaps v_seats v_signs v_hallMany v_chosenSet v_paidSeats v_rhoUp v_rhoBy v_breachGroup v_sign) (wd_X11_say cyI cyJ cyZ a_this a_sets a_papers a_worths a_sign a_hallSign a_chosen a_upper a_lower v_heaps v_seats q.2.1 v_hallMany v_chosenSet v_paidSeats v_rhoUp v_rhoBy v_breachGroup q.2.2) q.1 := by
  refine kMi_of (cc := cX11_say) (nL := 2) (own := RX11) (by decide) rfl rfl (Nat.le_of_ble_eq_true rfl) ?_
  intro p e s m below meth c A Q ls C hret hP hD hS hl
  have hl : lv_has ls 2 [(0, .ref a_this), (1, .int x1)] := hl
  unfold f_X11_say at hf
  obtain ⟨hx, hb, hml, hown, hts, hK, hA⟩ := id C
  have iX11 : ∀ w ∈ u_ws RX11 TX11 17, w ∈ wsX11_say := by decide +kernel
  have fl23 := hts (.fieldLink RX11 23 "FairSeatsModel" "sign" "[I") (by decide +kernel)
  have fl50 := hts (.fieldLink RX11 50 "FairSeatsModel" "signs" "I") (by decide +kernel)
  have cw42 := va_cwS (R := rm_X11_say) (rm := rm_X11_in) 3 hts gX11_say_X11_in rfl rfl rfl (by decide +kernel) ⟨Nat.le_of_ble_eq_true rfl, Nat.le_of_ble_eq_true rfl⟩
  refine lv_iload_n hx hb dX11_say_0 rfl (lv_at hl 1 rfl) ?_
  refine lv_bipush (v := (33 : Int32)) hx hb dX11_say_1 (by decide) ?_
  refine lv_bipush (v := (126 : Int32)) hx hb dX11_say_3 (by decide) ?_
  obtain ⟨q1, hq1, hf⟩ := ob_bind hf
  refine k_Sz (wo := (wd_X11_say cyI cyJ cyZ a_this a_sets a_papers a_worths a_sign a_hallSign a_chosen a_upper a_lower v_heaps v_seats v_signs v_hallMany v_chosenSet v_paidSeats v_rhoUp v_rhoBy v_breachGroup v_sign)) (As := [.int x1, .int (33 : Int32), .int (126 : Int32)]) (rest := []) C (c_X11_in l D cyI cyJ cyZ   x1 (33 : Int32) (126 : Int32) q1 hq1) cw42 hP hD hS [] [0, 1] [0, 1] rfl rfl rfl (by decide) rfl rfl hl.1 (Nat.le_of_ble_eq_true rfl) dX11_say_5 ⟨Nat.zero_le _, Nat.zero_le _⟩ (fun H locs zq1 hP hD hS => ?_)
  refine lv_if_ne (tgt := 14) hx hb dX11_say_8 (by decide) (fun c2 => ?_) (fun c2 => ?_)
  · have hf := ob_neg c2 hf
    refine lv_aload_n hx hb dX11_say_14 rfl (lv_at hl 0 rfl) ?_
    refine va_get (D := D) (ci := 10) (v := .int v_signs) (C := RX11) (T := TX11) (N := 17) hx hb hts iX11 hown hK hP 0 rfl rfl 5 (by decide) fl50 (fun _ h9 => h9) rfl dX11_say_15 ?_
    refine lv_bipush (v := (40 : Int32)) hx hb dX11_say_18 (by decide) ?_
    refine lv_icmp_ne (tgt := 26) hx hb dX11_say_20 (by decide) (fun c3 => ?_) (fun c3 => ?_)
    · have hf := ob_neg c3 hf
      refine lv_aload_n hx hb dX11_say_26 rfl (lv_at hl 0 rfl) ?_
      refine va_get (D := D) (ci := 10) (v := .ref a_sign) (C := RX11) (T := TX11) (N := 17) hx hb hts iX11 hown hK hP 0 rfl rfl 6 (by decide) fl23 (fun _ h9 => h9) rfl dX11_say_27 ?_
      refine lv_aload_n hx hb dX11_say_30 rfl (lv_at hl 0 rfl) ?_
      refine va_get (D := D) (ci := 10) (v := .int v_signs) (C := RX11) (T := TX11) (N := 17) hx hb hts iX11 hown hK hP 0 rfl rfl 5 (by decide) fl50 (fun _ h9 => h9) rfl dX11_say_31 ?_
      refine lv_iload_n hx hb dX11_say_34 rfl (lv_at hl 1 rfl) ?_
      obtain ⟨h4, hf⟩ := og_in hf
      refine va_iast hx hb hK hP hD hS 1 0 rfl rfl h4 dX11_say_35 (fun H locs hP hD hS => ?_)
      have hP : va_P D vwCl (wd_X11_say cyI cyJ cyZ a_this a_sets a_papers a_worths a_sign a_hallSign a_chosen a_upper a_lower v_heaps v_seats v_signs v_hallMany v_chosenSet v_paidSeats v_rhoUp v_rhoBy v_breachGroup (upd v_sign v_signs.toNatClampNeg x1)) H := hP
      have hD : va_D A (wd_X11_say cyI cyJ cyZ a_this a_sets a_papers a_worths a_sign a_hallSign a_chosen a_upper a_lower v_heaps v_seats v_signs v_hallMany v_chosenSet v_paidSeats v_rhoUp v_rhoBy v_breachGroup (upd v_sign v_signs.toNatClampNeg x1)) := hD
      refine lv_aload_n hx hb dX11_say_36 rfl (lv_at hl 0 rfl) ?_
      refine lv_dup hx hb dX11_say_37 rfl ?_
      refine va_get (D := D) (ci := 10) (v := .int v_signs) (C := RX11) (T := TX11) (N := 17) hx hb hts iX11 hown hK hP 0 rfl rfl 5 (by decide) fl50 (fun _ h9 => h9) rfl dX11_say_38 ?_
      refine lv_iconst (v := (1 : Int32)) hx hb dX11_say_41 (by decide) ?_
      refine lv_iadd hx hb dX11_say_42 ?_
      refine va_put (D := D) (ci := 10) (v := .int (v_signs + (1 : Int32))) (ty := .int) (C := RX11) (T := TX11) (N := 17) hx hb hts iX11 tyX11 tyX11_ok nmX11 hown hK hP hD hS 0 rfl rfl 5 (by decide) fl50 (fun _ h9 => h9) rfl (by decide +kernel) rfl rfl (Nat.le_of_ble_eq_true rfl) dX11_say_43 (fun H locs hP hD hS => ?_)
      have hP : va_P D vwCl (wd_X11_say cyI cyJ cyZ a_this a_sets a_papers a_worths a_sign a_hallSign a_chosen a_upper a_lower v_heaps v_seats (v_signs + (1 : Int32)) v_hallMany v_chosenSet v_paidSeats v_rhoUp v_rhoBy v_breachGroup (upd v_sign v_signs.toNatClampNeg x1)) H := hP
      have hD : va_D A (wd_X11_say cyI cyJ cyZ a_this a_sets a_papers a_worths a_sign a_hallSign a_chosen a_upper a_lower v_heaps v_seats (v_signs + (1 : Int32)) v_hallMany v_chosenSet v_paidSeats v_rhoUp v_rhoBy v_breachGroup (upd v_sign v_signs.toNatClampNeg x1)) := hD
      refine lv_aload_n hx hb dX11_say_46 rfl (lv_at hl 0 rfl) ?_
      refine va_get (D := D) (ci := 10) (v := .int (v_signs + (1 : Int32))) (C := RX11) (T := TX11) (N := 17) hx hb hts iX11 hown hK hP 0 rfl rfl 5 (by decide) fl50 (fun _ h9 => h9) rfl dX11_say_47 ?_
      obtain rfl := Option.some.inj hf
      exact hret _ _ _ _ dX11_say_50 hP hD hS
    · have hf := ob_pos c3 hf
      refine lv_bipush (v := (-4 : Int32)) hx hb dX11_say_23 (by decide) ?_
      obtain rfl := Option.some.inj hf
      exact hret _ _ _ _ dX11_say_25 hP hD hS
  · have hf := ob_pos c2 hf
    refine lv_bipush (v := (-2 : Int32)) hx hb dX11_say_11 (by decide) ?_
    obtain rfl := Option.some.inj hf
    exact hret _ _ _ _ dX11_say_13 hP hD hS
abbrev rm_X11_wipe : Room := { frames := 0, cells := 0, slots := 0, locals := 0 }
abbrev wd_X11_wipe (cyI cyJ cyZ : ClassId) (a_this a_sets a_papers a_worths a_sign a_hallSign a_chosen a_upper a_lower : Nat) (v_heaps : Int32) (v_seats : Int32) (v_signs : Int32) (v_hallMany : Int32) (v_chosenSet : Int32) (v_paidSeats : Int32) (v_rhoUp : Int64) (v_rhoBy : Int64) (v_breachGroup : Int32) : va_W := [(a_this, .inr (10, [.int v_heaps, .ref a_sets, .ref a_papers, .int v_seats, .ref a_worths, .int v_signs, .ref a_sign, .int v_hallMany, .ref a_hallSign, .ref a_chosen, .int v_chosenSet, .int v_paidSeats, .ref a_upper, .ref a_lower, .long v_rhoUp, .long v_rhoBy, .int v_breachGroup]))]
def f_X11_wipe (v_signs : Int32) : Option (Int32 × Int32) := some (v_signs, (0 : Int32))
set_option maxHeartbeats 4000000 in
set_option maxRecDepth 100000 in
theorem c_X11_wipe (l : Launch) (D : va_G) (cyI cyJ cyZ : ClassId) (a_this a_sets a_papers a_worths a_sign a_hallSign a_chosen a_upper a_lower : Nat) (v_heaps : Int32) (v_seats : Int32) (v_signs : Int32) (v_hallMany : Int32) (v_chosenSet : Int32) (v_paidSeats : Int32) (v_rhoUp : Int64) (v_rhoBy : Int64) (v_breachGroup : Int32) (q : Int32 × Int32) (hf : f_X11_wipe v_signs = some q) : kMi l yX11_wipe wsX11_wipe rm_X11_wipe D (kTy cyI cyJ cyZ) [.ref a_this] (wd_X11_wipe cyI cyJ cyZ a_this a_sets a_papers a_worths a_sign a_hallSign a_chosen a_upper a_lower v_heaps v_seats v_signs v_hallMany v_chosenSet v_paidSeats v_rhoUp v_rhoBy v_breachGroup) (wd_X11_wipe cyI cyJ cyZ a_this a_sets a_papers a_worths a_sign a_hallSign a_chosen a_upper a_lower v_heaps v_seats q.2 v_hallMany v_chosenSet v_paidSeats v_rhoUp v_rhoBy v_breachGroup) q.1 := by
  refine kMi_of (cc := cX11_wipe) (nL := 2) (own := RX11) (by decide) rfl rfl (Nat.le_of_ble_eq_true rfl) ?_
  intro p e s m below meth c A Q ls C hret hP hD hS hl
  have hl : lv_has ls 2 [(0, .ref a_this)] := hl
  unfold f_X11_wipe at hf
  obtain ⟨hx, hb, hml, hown, hts, hK, hA⟩ := id C
  have iX11 : ∀ w ∈ u_ws RX11 TX11 17, w ∈ wsX11_wipe := by decide +kernel
  have fl50 := hts (.fieldLink RX11 50 "FairSeatsModel" "signs" "I") (by decide +kernel)
  refine lv_aload_n hx hb dX11_wipe_0 rfl (lv_at hl 0 rfl) ?_
  refine va_get (D := D) (ci := 10) (v := .int v_signs) (C := RX11) (T := TX11) (N := 17) hx hb hts iX11 hown hK hP 0 rfl rfl 5 (by decide) fl50 (fun _ h9 => h9) rfl dX11_wipe_1 ?_
  refine lv_istore_n (lv' := [(1, .int v_signs), (0, .ref a_this)]) hx hb dX11_wipe_4 rfl hl (by decide) rfl (fun ls hl => ?_)
  refine lv_aload_n hx hb dX11_wipe_5 rfl (lv_at hl 1 rfl) ?_
  refine lv_iconst (v := (0 : Int32)) hx hb dX11_wipe_6 (by decide) ?_
  refine va_put (D := D) (ci := 10) (v := .int (0 : Int32)) (ty := .int) (C := RX11) (T := TX11) (N := 17) hx hb hts iX11 tyX11 tyX11_ok nmX11 hown hK hP hD hS 0 rfl rfl 5 (by decide) fl50 (fun _ h9 => h9) rfl (by decide +kernel) rfl rfl (Nat.le_of_ble_eq_true rfl) dX11_wipe_7 (fun H locs hP hD hS => ?_)
  have hP : va_P D vwCl (wd_X11_wipe cyI cyJ cyZ a_this a_sets a_papers a_worths a_sign a_hallSign a_chosen a_upper a_lower v_heaps v_seats (0 : Int32) v_hallMany v_chosenSet v_paidSeats v_rhoUp v_rhoBy v_breachGroup) H := hP
  have hD : va_D A (wd_X11_wipe cyI cyJ cyZ a_this a_sets a_papers a_worths a_sign a_hallSign a_chosen a_upper a_lower v_heaps v_seats (0 : Int32) v_hallMany v_chosenSet v_paidSeats v_rhoUp v_rhoBy v_breachGroup) := hD
  refine lv_iload_n hx hb dX11_wipe_10 rfl (lv_at hl 0 rfl) ?_
  obtain rfl := Option.some.inj hf
  exact hret _ _ _ _ dX11_wipe_11 hP hD hS
abbrev rm_X11_faultOf : Room := { frames := 1, cells := 0, slots := 0, locals := 22 }
abbrev wd_X11_faultOf (cyI cyJ cyZ : ClassId) (a_this a_sets a_papers a_worths a_sign a_hallSign a_chosen a_upper a_lower : Nat) (v_heaps : Int32) (v_seats : Int32) (v_signs : Int32) (v_hallMany : Int32) (v_chosenSet : Int32) (v_paidSeats : Int32) (v_rhoUp : Int64) (v_rhoBy : Int64) (v_breachGroup : Int32) (v_sign : Nat → Int32) : va_W := [(a_this, .inr (10, [.int v_heaps, .ref a_sets, .ref a_papers, .int v_seats, .ref a_worths, .int v_signs, .ref a_sign, .int v_hallMany, .ref a_hallSign, .ref a_chosen, .int v_chosenSet, .int v_paidSeats, .ref a_upper, .ref a_lower, .long v_rhoUp, .long v_rhoBy, .int v_breachGroup])), (a_sign, .inl (cyI, 40, .inl v_sign))]
def lp_X11_faultOf_6 (v_signs : Int32) (v_sign : Nat → Int32) (k : (Int32) → Option (Int32)) : Nat → Int32 → Int32 → Int32 → Option (Int32)
  | 0, _, _, _ => none
  | n + 1, y1, y2, y3 => (if v_signs ≤ y3 then k y1 else (if ob_in y3 40 = true then (f_X11_in (v_sign y3.toNatClampNeg) (97 : Int32) (104 : Int32)).bind (fun q3 => (if q3 = 0 then (if y1 = 0 then (f_X11_in (v_sign y3.toNatClampNeg) (97 : Int32) (104 : Int32)).bind (fun q25 => (if q25 = 0 then some y3 else lp_X11_faultOf_6 v_signs v_sign k n (1 : Int32) (v_sign y3.toNatClampNeg) (y3 + (1 : Int32)))) else (if y1 = (1 : Int32) then (if (v_sign y3.toNatClampNeg) = (60 : Int32) then lp_X11_faultOf_6 v_signs v_sign k n (2 : Int32) (0 : Int32) (y3 + (1 : Int32)) else (if (v_sign y3.toNatClampNeg) = (62 : Int32) then lp_X11_faultOf_6 v_signs v_sign k n (2 : Int32) (0 : Int32) (y3 + (1 : Int32)) else some y3)) else (if y1 = (2 : Int32) then (f_X11_in (v_sign y3.toNatClampNeg) (48 : Int32) (52 : Int32)).bind (fun q12 => (if q12 = 0 then some y3 else lp_X11_faultOf_6 v_signs v_sign k n (3 : Int32) (0 : Int32) (y3 + (1 : Int32)))) else (if (v_sign y3.toNatClampNeg) = (59 : Int32) then lp_X11_faultOf_6 v_signs v_sign k n (0 : Int32) (0 : Int32) (y3 + (1 : Int32)) else some y3)))) else (if (v_sign y3.toNatClampNeg) ≤ y2 then (if y1 = 0 then (f_X11_in (v_sign y3.toNatClampNeg) (97 : Int32) (104 : Int32)).bind (fun q51 => (if q51 = 0 then some y3 else lp_X11_faultOf_6 v_signs v_sign k n (1 : Int32) (v_sign y3.toNatClampNeg) (y3 + (1 : Int32)))) else (if y1 = (1 : Int32) then (if (v_sign y3.toNatClampNeg) = (60 : Int32) then lp_X11_faultOf_6 v_signs v_sign k n (2 : Int32) (0 : Int32) (y3 + (1 : Int32)) else (if (v_sign y3.toNatClampNeg) = (62 : Int32) then lp_X11_faultOf_6 v_signs v_sign k n (2 : Int32) (0 : Int32) (y3 + (1 : Int32)) else some y3)) else (if y1 = (2 : Int32) then (f_X11_in (v_sign y3.toNatClampNeg) (48 : Int32) (52 : Int32)).bind (fun q38 => (if q38 = 0 then some y3 else lp_X11_faultOf_6 v_signs v_sign k n (3 : Int32) (0 : Int32) (y3 + (1 : Int32)))) else (if (v_sign y3.toNatClampNeg) = (59 : Int32) then lp_X11_faultOf_6 v_signs v_sign k n (0 : Int32) (0 : Int32) (y3 + (1 : Int32)) else some y3)))) else (if y1 = 0 then (f_X11_in (v_sign y3.toNatClampNeg) (97 : Int32) (104 : Int32)).bind (fun q71 => (if q71 = 0 then some y3 else lp_X11_faultOf_6 v_signs v_sign k n (1 : Int32) (v_sign y3.toNatClampNeg) (y3 + (1 : Int32)))) else (if y1 = (1 : Int32) then lp_X11_faultOf_6 v_signs v_sign k n (1 : Int32) (v_sign y3.toNatClampNeg) (y3 + (1 : Int32)) else (if y1 = (2 : Int32) then (f_X11_in (v_sign y3.toNatClampNeg) (48 : Int32) (52 : Int32)).bind (fun q63 => (if q63 = 0 then some y3 else lp_X11_faultOf_6 v_signs v_sign k n (3 : Int32) (0 : Int32) (y3 + (1 : Int32)))) else (if (v_sign y3.toNatClampNeg) = (59 : Int32) then lp_X11_faultOf_6 v_signs v_sign k n (0 : Int32) (0 : Int32) (y3 + (1 : Int32)) else some y3))))))) else none))
def f_X11_faultOf (v_signs : Int32) (v_sign : Nat → Int32) : Option (Int32) := lp_X11_faultOf_6 v_signs v_sign (fun q76 => (if q76 = (3 : Int32) then some (-6 : Int32) else some v_signs)) FU (0 : Int32) (0 : Int32) (0 : Int32)
set_option maxHeartbeats 4000000 in
set_option maxRecDepth 100000 in
theorem wl_X11_faultOf_6 {p : Program} {l : Launch} {e : Env} {s : State} {m : MethodId} {args : Array Value} {below : List Frame} {meth : Method} {c : Code} {A : Nat → Prop} {Q : State → Prop} {D : va_G} {cyI cyJ cyZ : ClassId} {a_this a_sets a_papers a_worths a_sign a_hallSign a_chosen a_upper a_lower : Nat} {v_heaps : Int32} {v_seats : Int32} {v_signs : Int32} {v_hallMany : Int32} {v_chosenSet : Int32} {v_paidSeats : Int32} {v_rhoUp : Int64} {v_rhoBy : Int64} {v_breachGroup : Int32} {v_sign : Nat → Int32} {k : (Int32) → Option (Int32)} {q : Int32} (C : kC p s m args c cX11_faultOf 7 RX11 wsX11_faultOf D (kTy cyI cyJ cyZ) A) (hret : ∀ (pc : Nat) (H : Heap) (locs : List Loc) (ls : Array Slot), decode cX11_faultOf pc = .ok (.ireturn, 1) → va_P D vwCl (wd_X11_faultOf cyI cyJ cyZ a_this a_sets a_papers a_worths a_sign a_hallSign a_chosen a_upper a_lower v_heaps v_seats v_signs v_hallMany v_chosenSet v_paidSeats v_rhoUp v_rhoBy v_breachGroup v_sign) H → va_D A (wd_X11_faultOf cyI cyJ cyZ a_this a_sets a_papers a_worths a_sign a_hallSign a_chosen a_upper a_lower v_heaps v_seats v_signs v_hallMany v_chosenSet v_paidSeats v_rhoUp v_rhoBy v_breachGroup v_sign) → va_S A s.heap H locs → W p l e rm_X11_faultOf s m args below meth c H locs 0 0 Q (F0 m pc ls [.int q])) (K : (∀ (x : Int32) (H : Heap) (locs : List Loc) (ls : Array Slot), k x = some q → va_P D vwCl (wd_X11_faultOf cyI cyJ cyZ a_this a_sets a_papers a_worths a_sign a_hallSign a_chosen a_upper a_lower v_heaps v_seats v_signs v_hallMany v_chosenSet v_paidSeats v_rhoUp v_rhoBy v_breachGroup v_sign) H → va_D A (wd_X11_faultOf cyI cyJ cyZ a_this a_sets a_papers a_worths a_sign a_hallSign a_chosen a_upper a_lower v_heaps v_seats v_signs v_hallMany v_chosenSet v_paidSeats v_rhoUp v_rhoBy v_breachGroup v_sign) → va_S A s.heap H locs → lv_has ls 7 [(0, .ref a_this), (1, .int x)] → W p l e rm_X11_faultOf s m args below meth c H locs 0 0 Q (F0 m 189 ls []))) :
    ∀ (n : Nat) (y1 : Int32) (y2 : Int32) (y3 : Int32) (H : Heap) (locs : List Loc) (ls : Array Slot), lp_X11_faultOf_6 v_signs v_sign k n y1 y2 y3 = some q → va_P D vwCl (wd_X11_faultOf cyI cyJ cyZ a_this a_sets a_papers a_worths a_sign a_hallSign a_chosen a_upper a_lower v_heaps v_seats v_signs v_hallMany v_chosenSet v_paidSeats v_rhoUp v_rhoBy v_breachGroup v_sign) H → va_D A (wd_X11_faultOf cyI cyJ cyZ a_this a_sets a_papers a_worths a_sign a_hallSign a_chosen a_upper a_lower v_heaps v_seats v_signs v_hallMany v_chosenSet v_paidSeats v_rhoUp v_rhoBy v_breachGroup v_sign) → va_S A s.heap H locs → lv_has ls 7 [(0, .ref a_this), (1, .int y1), (2, .int y2), (3, .int y3)] → W p l e rm_X11_faultOf s m args below meth c H locs 0 0 Q (F0 m 6 ls []) := by
  obtain ⟨hx, hb, hml, hown, hts, hK, hA⟩ := id C
  have iX11 : ∀ w ∈ u_ws RX11 TX11 17, w ∈ wsX11_faultOf := by decide +kernel
  have fl23 := hts (.fieldLink RX11 23 "FairSeatsModel" "sign" "[I") (by decide +kernel)
  have fl50 := hts (.fieldLink RX11 50 "FairSeatsModel" "signs" "I") (by decide +kernel)
  have cw42 := va_cwS (R := rm_X11_faultOf) (rm := rm_X11_in) 3 hts gX11_faultOf_X11_in rfl rfl rfl (by decide +kernel) ⟨Nat.le_of_ble_eq_true rfl, Nat.le_of_ble_eq_true rfl⟩
  intro n
  induction n with
  | zero =>
    intro y1 y2 y3 H locs ls hf hP hD hS hl
    rw [lp_X11_faultOf_6] at hf
    cases hf
  | succ n ih =>
    intro y1 y2 y3 H locs ls hf hP hD hS hl
    rw [lp_X11_faultOf_6] at hf
    refine lv_iload_n hx hb dX11_faultOf_6 rfl (lv_at hl 3 rfl) ?_
    refine lv_aload_n hx hb dX11_faultOf_7 rfl (lv_at hl 0 rfl) ?_
    refine va_get (D := D) (ci := 10) (v := .int v_signs) (C := RX11) (T := TX11) (N := 17) hx hb hts iX11 hown hK hP 0 rfl rfl 5 (by decide) fl50 (fun _ h9 => h9) rfl dX11_faultOf_8 ?_
    refine lv_icmp_ge (tgt := 189) hx hb dX11_faultOf_11 (by decide) (fun c1 => ?_) (fun c1 => ?_)
    · have hf := ob_pos c1 hf
      exact K y1 _ _ _ hf hP hD hS (lv_sub hl [0, 1] rfl)
    · have hf := ob_neg c1 hf
      refine lv_aload_n hx hb dX11_faultOf_14 rfl (lv_at hl 0 rfl) ?_
      refine va_get (D := D) (ci := 10) (v := .ref a_sign) (C := RX11) (T := TX11) (N := 17) hx hb hts iX11 hown hK hP 0 rfl rfl 6 (by decide) fl23 (fun _ h9 => h9) rfl dX11_faultOf_15 ?_
      refine lv_iload_n hx hb dX11_faultOf_18 rfl (lv_at hl 3 rfl) ?_
      obtain ⟨h2, hf⟩ := og_in hf
      refine va_iald hx hb hK hP 1 0 rfl rfl h2 dX11_faultOf_19 ?_
      refine lv_istore (lv' := [(4, .int (v_sign y3.toNatClampNeg)), (0, .ref a_this), (1, .int y1), (2, .int y2), (3, .int y3)]) hx hb dX11_faultOf_20 hl (by decide) rfl (fun ls hl => ?_)
      refine lv_iload hx hb dX11_faultOf_22 (lv_at hl 0 rfl) ?_
      refine lv_bipush (v := (97 : Int32)) hx hb dX11_faultOf_24 (by decide) ?_
      refine lv_bipush (v := (104 : Int32)) hx hb dX11_faultOf_26 (by decide) ?_
      obtain ⟨q3, hq3, hf⟩ := ob_bind hf
      refine k_Sz (wo := (wd_X11_faultOf cyI cyJ cyZ a_this a_sets a_papers a_worths a_sign a_hallSign a_chosen a_upper a_lower v_heaps v_seats v_signs v_hallMany v_chosenSet v_paidSeats v_rhoUp v_rhoBy v_breachGroup v_sign)) (As := [.int (v_sign y3.toNatClampNeg), .int (97 : Int32), .int (104 : Int32)]) (rest := []) C (c_X11_in l D cyI cyJ cyZ   (v_sign y3.toNatClampNeg) (97 : Int32) (104 : Int32) q3 hq3) cw42 hP hD hS [] [0, 1] [0, 1] rfl rfl rfl (by decide) rfl rfl hl.1 (Nat.le_of_ble_eq_true rfl) dX11_faultOf_28 ⟨Nat.zero_le _, Nat.zero_le _⟩ (fun H locs zq3 hP hD hS => ?_)
      refine lv_if_eq (tgt := 44) hx hb dX11_faultOf_31 (by decide) (fun c4 => ?_) (fun c4 => ?_)
      · have hf := ob_pos c4 hf
        refine lv_iconst (v := (0 : Int32)) hx hb dX11_faultOf_44 (by decide) ?_
        refine lv_istore (lv' := [(5, .int (0 : Int32)), (4, .int (v_sign y3.toNatClampNeg)), (0, .ref a_this), (1, .int y1), (2, .int y2), (3, .int y3)]) hx hb dX11_faultOf_45 hl (by decide) rfl (fun ls hl => ?_)
        refine lv_bipush (v := (-6 : Int32)) hx hb dX11_faultOf_47 (by decide) ?_
        refine lv_istore (lv' := [(6, .int (-6 : Int32)), (5, .int (0 : Int32)), (4, .int (v_sign y3.toNatClampNeg)), (0, .ref a_this), (1, .int y1), (2, .int y2), (3, .int y3)]) hx hb dX11_faultOf_49 hl (by decide) rfl (fun ls hl => ?_)
        refine lv_iload_n hx hb dX11_faultOf_51 rfl (lv_at hl 4 rfl) ?_
        refine lv_if_ne (tgt := 78) hx hb dX11_faultOf_52 (by decide) (fun c5 => ?_) (fun c5 => ?_)
        · have hf := ob_neg c5 hf
          refine lv_iload_n hx hb dX11_faultOf_78 rfl (lv_at hl 4 rfl) ?_
          refine lv_iconst (v := (1 : Int32)) hx hb dX11_faultOf_79 (by decide) ?_
          refine lv_icmp_ne (tgt := 117) hx hb dX11_faultOf_80 (by decide) (fun c6 => ?_) (fun c6 => ?_)
          · have hf := ob_neg c6 hf
            refine lv_iload_n hx hb dX11_faultOf_117 rfl (lv_at hl 4 rfl) ?_
            refine lv_iconst (v := (2 : Int32)) hx hb dX11_faultOf_118 (by decide) ?_
            refine lv_icmp_ne (tgt := 145) hx hb dX11_faultOf_119 (by decide) (fun c7 => ?_) (fun c7 => ?_)
            · have hf := ob_neg c7 hf
              refine lv_iload hx hb dX11_faultOf_145 (lv_at hl 2 rfl) ?_
              refine lv_bipush (v := (59 : Int32)) hx hb dX11_faultOf_147 (by decide) ?_
              refine lv_icmp_ne (tgt := 156) hx hb dX11_faultOf_149 (by decide) (fun c8 => ?_) (fun c8 => ?_)
              · have hf := ob_neg c8 hf
                refine lv_bipush (v := (-6 : Int32)) hx hb dX11_faultOf_156 (by decide) ?_
                refine lv_istore (lv' := [(6, .int (-6 : Int32)), (5, .int (0 : Int32)), (4, .int (v_sign y3.toNatClampNeg)), (0, .ref a_this), (1, .int y1), (2, .int y2), (3, .int y3)]) hx hb dX11_faultOf_158 hl (by decide) rfl (fun ls hl => ?_)
                refine lv_iload hx hb dX11_faultOf_160 (lv_at hl 0 rfl) ?_
                refine lv_if_ge (tgt := 167) hx hb dX11_faultOf_162 (by decide) (fun c9 => ?_) (fun c9 => ?_)
                · exact absurd c9 (by decide)
                · refine lv_iload_n hx hb dX11_faultOf_165 rfl (lv_at hl 6 rfl) ?_
                  obtain rfl := Option.some.inj hf
                  exact hret _ _ _ _ dX11_faultOf_166 hP hD hS
              · have hf := ob_pos c8 hf
                refine lv_iconst (v := (0 : Int32)) hx hb dX11_faultOf_152 (by decide) ?_
                refine lv_goto (tgt := 158) hx hb dX11_faultOf_153 (by decide) ?_
                refine lv_istore (lv' := [(6, .int (0 : Int32)), (5, .int (0 : Int32)), (4, .int (v_sign y3.toNatClampNeg)), (0, .ref a_this), (1, .int y1), (2, .int y2), (3, .int y3)]) hx hb dX11_faultOf_158 hl (by decide) rfl (fun ls hl => ?_)
                refine lv_iload hx hb dX11_faultOf_160 (lv_at hl 0 rfl) ?_
                refine lv_if_ge (tgt := 167) hx hb dX11_faultOf_162 (by decide) (fun c10 => ?_) (fun c10 => ?_)
                · refine lv_iload hx hb dX11_faultOf_167 (lv_at hl 0 rfl) ?_
                  refine lv_iconst (v := (1 : Int32)) hx hb dX11_faultOf_169 (by decide) ?_
                  refine lv_icmp_ne (tgt := 178) hx hb dX11_faultOf_170 (by decide) (fun c11 => ?_) (fun c11 => ?_)
                  · refine lv_iconst (v := (0 : Int32)) hx hb dX11_faultOf_178 (by decide) ?_
                    refine lv_istore_n (lv' := [(2, .int (0 : Int32)), (6, .int (0 : Int32)), (5, .int (0 : Int32)), (4, .int (v_sign y3.toNatClampNeg)), (0, .ref a_this), (1, .int y1), (3, .int y3)]) hx hb dX11_faultOf_179 rfl hl (by decide) rfl (fun ls hl => ?_)
                    refine lv_iload hx hb dX11_faultOf_180 (lv_at hl 1 rfl) ?_
                    refine lv_istore_n (lv' := [(1, .int (0 : Int32)), (2, .int (0 : Int32)), (6, .int (0 : Int32)), (5, .int (0 : Int32)), (4, .int (v_sign y3.toNatClampNeg)), (0, .ref a_this), (3, .int y3)]) hx hb dX11_faultOf_182 rfl hl (by decide) rfl (fun ls hl => ?_)
                    refine lv_iinc (v := (y3 + (1 : Int32))) (lv' := [(3, .int (y3 + (1 : Int32))), (1, .int (0 : Int32)), (2, .int (0 : Int32)), (6, .int (0 : Int32)), (5, .int (0 : Int32)), (4, .int (v_sign y3.toNatClampNeg)), (0, .ref a_this)]) hx hb dX11_faultOf_183 hl (k := 6) rfl rfl (by decide) rfl (fun ls hl => ?_)
                    refine lv_goto (tgt := 6) hx hb dX11_faultOf_186 (by decide) ?_
                    exact ih (0 : Int32) (0 : Int32) (y3 + (1 : Int32)) _ _ _ hf hP hD hS (lv_sub hl [6, 1, 2, 0] rfl)
                  · exact absurd c11 (by decide)
                · exact absurd c10 (by decide)
            · have hf := ob_pos c7 hf
              refine lv_iload hx hb dX11_faultOf_122 (lv_at hl 2 rfl) ?_
              refine lv_bipush (v := (48 : Int32)) hx hb dX11_faultOf_124 (by decide) ?_
              refine lv_bipush (v := (52 : Int32)) hx hb dX11_faultOf_126 (by decide) ?_
              obtain ⟨q12, hq12, hf⟩ := ob_bind hf
              refine k_Sz (wo := (wd_X11_faultOf cyI cyJ cyZ a_this a_sets a_papers a_worths a_sign a_hallSign a_chosen a_upper a_lower v_heaps v_seats v_signs v_hallMany v_chosenSet v_paidSeats v_rhoUp v_rhoBy v_breachGroup v_sign)) (As := [.int (v_sign y3.toNatClampNeg), .int (48 : Int32), .int (52 : Int32)]) (rest := []) C (c_X11_in l D cyI cyJ cyZ   (v_sign y3.toNatClampNeg) (48 : Int32) (52 : Int32) q12 hq12) cw42 hP hD hS [] [0, 1] [0, 1] rfl rfl rfl (by decide) rfl rfl hl.1 (Nat.le_of_ble_eq_true rfl) dX11_faultOf_128 ⟨Nat.zero_le _, Nat.zero_le _⟩ (fun H locs zq12 hP hD hS => ?_)
              refine lv_if_eq (tgt := 138) hx hb dX11_faultOf_131 (by decide) (fun c13 => ?_) (fun c13 => ?_)
              · have hf := ob_pos c13 hf
                refine lv_bipush (v := (-6 : Int32)) hx hb dX11_faultOf_138 (by decide) ?_
                refine lv_istore (lv' := [(6, .int (-6 : Int32)), (5, .int (0 : Int32)), (4, .int (v_sign y3.toNatClampNeg)), (0, .ref a_this), (1, .int y1), (2, .int y2), (3, .int y3)]) hx hb dX11_faultOf_140 hl (by decide) rfl (fun ls hl => ?_)
                refine lv_goto (tgt := 160) hx hb dX11_faultOf_142 (by decide) ?_
                refine lv_iload hx hb dX11_faultOf_160 (lv_at hl 0 rfl) ?_
                refine lv_if_ge (tgt := 167) hx hb dX11_faultOf_162 (by decide) (fun c14 => ?_) (fun c14 => ?_)
                · exact absurd c14 (by decide)
                · refine lv_iload_n hx hb dX11_faultOf_165 rfl (lv_at hl 6 rfl) ?_
                  obtain rfl := Option.some.inj hf
                  exact hret _ _ _ _ dX11_faultOf_166 hP hD hS
              · have hf := ob_neg c13 hf
                refine lv_iconst (v := (3 : Int32)) hx hb dX11_faultOf_134 (by decide) ?_
                refine lv_goto (tgt := 140) hx hb dX11_faultOf_135 (by decide) ?_
                refine lv_istore (lv' := [(6, .int (3 : Int32)), (5, .int (0 : Int32)), (4, .int (v_sign y3.toNatClampNeg)), (0, .ref a_this), (1, .int y1), (2, .int y2), (3, .int y3)]) hx hb dX11_faultOf_140 hl (by decide) rfl (fun ls hl => ?_)
                refine lv_goto (tgt := 160) hx hb dX11_faultOf_142 (by decide) ?_
                refine lv_iload hx hb dX11_faultOf_160 (lv_at hl 0 rfl) ?_
                refine lv_if_ge (tgt := 167) hx hb dX11_faultOf_162 (by decide) (fun c15 => ?_) (fun c15 => ?_)
                · refine lv_iload hx hb dX11_faultOf_167 (lv_at hl 0 rfl) ?_
                  refine lv_iconst (v := (1 : Int32)) hx hb dX11_faultOf_169 (by decide) ?_
                  refine lv_icmp_ne (tgt := 178) hx hb dX11_faultOf_170 (by decide) (fun c16 => ?_) (fun c16 => ?_)
                  · refine lv_iconst (v := (0 : Int32)) hx hb dX11_faultOf_178 (by decide) ?_
                    refine lv_istore_n (lv' := [(2, .int (0 : Int32)), (6, .int (3 : Int32)), (5, .int (0 : Int32)), (4, .int (v_sign y3.toNatClampNeg)), (0, .ref a_this), (1, .int y1), (3, .int y3)]) hx hb dX11_faultOf_179 rfl hl (by decide) rfl (fun ls hl => ?_)
                    refine lv_iload hx hb dX11_faultOf_180 (lv_at hl 1 rfl) ?_
                    refine lv_istore_n (lv' := [(1, .int (3 : Int32)), (2, .int (0 : Int32)), (6, .int (3 : Int32)), (5, .int (0 : Int32)), (4, .int (v_sign y3.toNatClampNeg)), (0, .ref a_this), (3, .int y3)]) hx hb dX11_faultOf_182 rfl hl (by decide) rfl (fun ls hl => ?_)
                    refine lv_iinc (v := (y3 + (1 : Int32))) (lv' := [(3, .int (y3 + (1 : Int32))), (1, .int (3 : Int32)), (2, .int (0 : Int32)), (6, .int (3 : Int32)), (5, .int (0 : Int32)), (4, .int (v_sign y3.toNatClampNeg)), (0, .ref a_this)]) hx hb dX11_faultOf_183 hl (k := 6) rfl rfl (by decide) rfl (fun ls hl => ?_)
                    refine lv_goto (tgt := 6) hx hb dX11_faultOf_186 (by decide) ?_
                    exact ih (3 : Int32) (0 : Int32) (y3 + (1 : Int32)) _ _ _ hf hP hD hS (lv_sub hl [6, 1, 2, 0] rfl)
                  · exact absurd c16 (by decide)
                · exact absurd c15 (by decide)
          · have hf := ob_pos c6 hf
            refine lv_iload hx hb dX11_faultOf_83 (lv_at hl 1 rfl) ?_
            refine lv_if_eq (tgt := 92) hx hb dX11_faultOf_85 (by decide) (fun c17 => ?_) (fun c17 => ?_)
            · refine lv_iload hx hb dX11_faultOf_92 (lv_at hl 2 rfl) ?_
              refine lv_bipush (v := (60 : Int32)) hx hb dX11_faultOf_94 (by decide) ?_
              refine lv_icmp_eq (tgt := 106) hx hb dX11_faultOf_96 (by decide) (fun c18 => ?_) (fun c18 => ?_)
              · have hf := ob_pos c18 hf
                refine lv_iconst (v := (2 : Int32)) hx hb dX11_faultOf_106 (by decide) ?_
                refine lv_goto (tgt := 112) hx hb dX11_faultOf_107 (by decide) ?_
                refine lv_istore (lv' := [(6, .int (2 : Int32)), (5, .int (0 : Int32)), (4, .int (v_sign y3.toNatClampNeg)), (0, .ref a_this), (1, .int y1), (2, .int y2), (3, .int y3)]) hx hb dX11_faultOf_112 hl (by decide) rfl (fun ls hl => ?_)
                refine lv_goto (tgt := 160) hx hb dX11_faultOf_114 (by decide) ?_
                refine lv_iload hx hb dX11_faultOf_160 (lv_at hl 0 rfl) ?_
                refine lv_if_ge (tgt := 167) hx hb dX11_faultOf_162 (by decide) (fun c19 => ?_) (fun c19 => ?_)
                · refine lv_iload hx hb dX11_faultOf_167 (lv_at hl 0 rfl) ?_
                  refine lv_iconst (v := (1 : Int32)) hx hb dX11_faultOf_169 (by decide) ?_
                  refine lv_icmp_ne (tgt := 178) hx hb dX11_faultOf_170 (by decide) (fun c20 => ?_) (fun c20 => ?_)
                  · refine lv_iconst (v := (0 : Int32)) hx hb dX11_faultOf_178 (by decide) ?_
                    refine lv_istore_n (lv' := [(2, .int (0 : Int32)), (6, .int (2 : Int32)), (5, .int (0 : Int32)), (4, .int (v_sign y3.toNatClampNeg)), (0, .ref a_this), (1, .int y1), (3, .int y3)]) hx hb dX11_faultOf_179 rfl hl (by decide) rfl (fun ls hl => ?_)
                    refine lv_iload hx hb dX11_faultOf_180 (lv_at hl 1 rfl) ?_
                    refine lv_istore_n (lv' := [(1, .int (2 : Int32)), (2, .int (0 : Int32)), (6, .int (2 : Int32)), (5, .int (0 : Int32)), (4, .int (v_sign y3.toNatClampNeg)), (0, .ref a_this), (3, .int y3)]) hx hb dX11_faultOf_182 rfl hl (by decide) rfl (fun ls hl => ?_)
                    refine lv_iinc (v := (y3 + (1 : Int32))) (lv' := [(3, .int (y3 + (1 : Int32))), (1, .int (2 : Int32)), (2, .int (0 : Int32)), (6, .int (2 : Int32)), (5, .int (0 : Int32)), (4, .int (v_sign y3.toNatClampNeg)), (0, .ref a_this)]) hx hb dX11_faultOf_183 hl (k := 6) rfl rfl (by decide) rfl (fun ls hl => ?_)
                    refine lv_goto (tgt := 6) hx hb dX11_faultOf_186 (by decide) ?_
                    exact ih (2 : Int32) (0 : Int32) (y3 + (1 : Int32)) _ _ _ hf hP hD hS (lv_sub hl [6, 1, 2, 0] rfl)
                  · exact absurd c20 (by decide)
                · exact absurd c19 (by decide)
              · have hf := ob_neg c18 hf
                refine lv_iload hx hb dX11_faultOf_99 (lv_at hl 2 rfl) ?_
                refine lv_bipush (v := (62 : Int32)) hx hb dX11_faultOf_101 (by decide) ?_
                refine lv_icmp_ne (tgt := 110) hx hb dX11_faultOf_103 (by decide) (fun c21 => ?_) (fun c21 => ?_)
                · have hf := ob_neg c21 hf
                  refine lv_bipush (v := (-6 : Int32)) hx hb dX11_faultOf_110 (by decide) ?_
                  refine lv_istore (lv' := [(6, .int (-6 : Int32)), (5, .int (0 : Int32)), (4, .int (v_sign y3.toNatClampNeg)), (0, .ref a_this), (1, .int y1), (2, .int y2), (3, .int y3)]) hx hb dX11_faultOf_112 hl (by decide) rfl (fun ls hl => ?_)
                  refine lv_goto (tgt := 160) hx hb dX11_faultOf_114 (by decide) ?_
                  refine lv_iload hx hb dX11_faultOf_160 (lv_at hl 0 rfl) ?_
                  refine lv_if_ge (tgt := 167) hx hb dX11_faultOf_162 (by decide) (fun c22 => ?_) (fun c22 => ?_)
                  · exact absurd c22 (by decide)
                  · refine lv_iload_n hx hb dX11_faultOf_165 rfl (lv_at hl 6 rfl) ?_
                    obtain rfl := Option.some.inj hf
                    exact hret _ _ _ _ dX11_faultOf_166 hP hD hS
                · have hf := ob_pos c21 hf
                  refine lv_iconst (v := (2 : Int32)) hx hb dX11_faultOf_106 (by decide) ?_
                  refine lv_goto (tgt := 112) hx hb dX11_faultOf_107 (by decide) ?_
                  refine lv_istore (lv' := [(6, .int (2 : Int32)), (5, .int (0 : Int32)), (4, .int (v_sign y3.toNatClampNeg)), (0, .ref a_this), (1, .int y1), (2, .int y2), (3, .int y3)]) hx hb dX11_faultOf_112 hl (by decide) rfl (fun ls hl => ?_)
                  refine lv_goto (tgt := 160) hx hb dX11_faultOf_114 (by decide) ?_
                  refine lv_iload hx hb dX11_faultOf_160 (lv_at hl 0 rfl) ?_
                  refine lv_if_ge (tgt := 167) hx hb dX11_faultOf_162 (by decide) (fun c23 => ?_) (fun c23 => ?_)
                  · refine lv_iload hx hb dX11_faultOf_167 (lv_at hl 0 rfl) ?_
                    refine lv_iconst (v := (1 : Int32)) hx hb dX11_faultOf_169 (by decide) ?_
                    refine lv_icmp_ne (tgt := 178) hx hb dX11_faultOf_170 (by decide) (fun c24 => ?_) (fun c24 => ?_)
                    · refine lv_iconst (v := (0 : Int32)) hx hb dX11_faultOf_178 (by decide) ?_
                      refine lv_istore_n (lv' := [(2, .int (0 : Int32)), (6, .int (2 : Int32)), (5, .int (0 : Int32)), (4, .int (v_sign y3.toNatClampNeg)), (0, .ref a_this), (1, .int y1), (3, .int y3)]) hx hb dX11_faultOf_179 rfl hl (by decide) rfl (fun ls hl => ?_)
                      refine lv_iload hx hb dX11_faultOf_180 (lv_at hl 1 rfl) ?_
                      refine lv_istore_n (lv' := [(1, .int (2 : Int32)), (2, .int (0 : Int32)), (6, .int (2 : Int32)), (5, .int (0 : Int32)), (4, .int (v_sign y3.toNatClampNeg)), (0, .ref a_this), (3, .int y3)]) hx hb dX11_faultOf_182 rfl hl (by decide) rfl (fun ls hl => ?_)
                      refine lv_iinc (v := (y3 + (1 : Int32))) (lv' := [(3, .int (y3 + (1 : Int32))), (1, .int (2 : Int32)), (2, .int (0 : Int32)), (6, .int (2 : Int32)), (5, .int (0 : Int32)), (4, .int (v_sign y3.toNatClampNeg)), (0, .ref a_this)]) hx hb dX11_faultOf_183 hl (k := 6) rfl rfl (by decide) rfl (fun ls hl => ?_)
                      refine lv_goto (tgt := 6) hx hb dX11_faultOf_186 (by decide) ?_
                      exact ih (2 : Int32) (0 : Int32) (y3 + (1 : Int32)) _ _ _ hf hP hD hS (lv_sub hl [6, 1, 2, 0] rfl)
                    · exact absurd c24 (by decide)
                  · exact absurd c23 (by decide)
            · exact absurd c17 (by decide)
        · have hf := ob_pos c5 hf
          refine lv_iload hx hb dX11_faultOf_55 (lv_at hl 2 rfl) ?_
          refine lv_bipush (v := (97 : Int32)) hx hb dX11_faultOf_57 (by decide) ?_
          refine lv_bipush (v := (104 : Int32)) hx hb dX11_faultOf_59 (by decide) ?_
          obtain ⟨q25, hq25, hf⟩ := ob_bind hf
          refine k_Sz (wo := (wd_X11_faultOf cyI cyJ cyZ a_this a_sets a_papers a_worths a_sign a_hallSign a_chosen a_upper a_lower v_heaps v_seats v_signs v_hallMany v_chosenSet v_paidSeats v_rhoUp v_rhoBy v_breachGroup v_sign)) (As := [.int (v_sign y3.toNatClampNeg), .int (97 : Int32), .int (104 : Int32)]) (rest := []) C (c_X11_in l D cyI cyJ cyZ   (v_sign y3.toNatClampNeg) (97 : Int32) (104 : Int32) q25 hq25) cw42 hP hD hS [] [0, 1] [0, 1] rfl rfl rfl (by decide) rfl rfl hl.1 (Nat.le_of_ble_eq_true rfl) dX11_faultOf_61 ⟨Nat.zero_le _, Nat.zero_le _⟩ (fun H locs zq25 hP hD hS => ?_)
          refine lv_if_eq (tgt := 71) hx hb dX11_faultOf_64 (by decide) (fun c26 => ?_) (fun c26 => ?_)
          · have hf := ob_pos c26 hf
            refine lv_bipush (v := (-6 : Int32)) hx hb dX11_faultOf_71 (by decide) ?_
            refine lv_istore (lv' := [(6, .int (-6 : Int32)), (5, .int (0 : Int32)), (4, .int (v_sign y3.toNatClampNeg)), (0, .ref a_this), (1, .int y1), (2, .int y2), (3, .int y3)]) hx hb dX11_faultOf_73 hl (by decide) rfl (fun ls hl => ?_)
            refine lv_goto (tgt := 160) hx hb dX11_faultOf_75 (by decide) ?_
            refine lv_iload hx hb dX11_faultOf_160 (lv_at hl 0 rfl) ?_
            refine lv_if_ge (tgt := 167) hx hb dX11_faultOf_162 (by decide) (fun c27 => ?_) (fun c27 => ?_)
            · exact absurd c27 (by decide)
            · refine lv_iload_n hx hb dX11_faultOf_165 rfl (lv_at hl 6 rfl) ?_
              obtain rfl := Option.some.inj hf
              exact hret _ _ _ _ dX11_faultOf_166 hP hD hS
          · have hf := ob_neg c26 hf
            refine lv_iconst (v := (1 : Int32)) hx hb dX11_faultOf_67 (by decide) ?_
            refine lv_goto (tgt := 73) hx hb dX11_faultOf_68 (by decide) ?_
            refine lv_istore (lv' := [(6, .int (1 : Int32)), (5, .int (0 : Int32)), (4, .int (v_sign y3.toNatClampNeg)), (0, .ref a_this), (1, .int y1), (2, .int y2), (3, .int y3)]) hx hb dX11_faultOf_73 hl (by decide) rfl (fun ls hl => ?_)
            refine lv_goto (tgt := 160) hx hb dX11_faultOf_75 (by decide) ?_
            refine lv_iload hx hb dX11_faultOf_160 (lv_at hl 0 rfl) ?_
            refine lv_if_ge (tgt := 167) hx hb dX11_faultOf_162 (by decide) (fun c28 => ?_) (fun c28 => ?_)
            · refine lv_iload hx hb dX11_faultOf_167 (lv_at hl 0 rfl) ?_
              refine lv_iconst (v := (1 : Int32)) hx hb dX11_faultOf_169 (by decide) ?_
              refine lv_icmp_ne (tgt := 178) hx hb dX11_faultOf_170 (by decide) (fun c29 => ?_) (fun c29 => ?_)
              · exact absurd c29 (by decide)
              · refine lv_iload hx hb dX11_faultOf_173 (lv_at hl 2 rfl) ?_
                refine lv_goto (tgt := 179) hx hb dX11_faultOf_175 (by decide) ?_
                refine lv_istore_n (lv' := [(2, .int (v_sign y3.toNatClampNeg)), (6, .int (1 : Int32)), (5, .int (0 : Int32)), (4, .int (v_sign y3.toNatClampNeg)), (0, .ref a_this), (1, .int y1), (3, .int y3)]) hx hb dX11_faultOf_179 rfl hl (by decide) rfl (fun ls hl => ?_)
                refine lv_iload hx hb dX11_faultOf_180 (lv_at hl 1 rfl) ?_
                refine lv_istore_n (lv' := [(1, .int (1 : Int32)), (2, .int (v_sign y3.toNatClampNeg)), (6, .int (1 : Int32)), (5, .int (0 : Int32)), (4, .int (v_sign y3.toNatClampNeg)), (0, .ref a_this), (3, .int y3)]) hx hb dX11_faultOf_182 rfl hl (by decide) rfl (fun ls hl => ?_)
                refine lv_iinc (v := (y3 + (1 : Int32))) (lv' := [(3, .int (y3 + (1 : Int32))), (1, .int (1 : Int32)), (2, .int (v_sign y3.toNatClampNeg)), (6, .int (1 : Int32)), (5, .int (0 : Int32)), (4, .int (v_sign y3.toNatClampNeg)), (0, .ref a_this)]) hx hb dX11_faultOf_183 hl (k := 6) rfl rfl (by decide) rfl (fun ls hl => ?_)
                refine lv_goto (tgt := 6) hx hb dX11_faultOf_186 (by decide) ?_
                exact ih (1 : Int32) (v_sign y3.toNatClampNeg) (y3 + (1 : Int32)) _ _ _ hf hP hD hS (lv_sub hl [6, 1, 2, 0] rfl)
            · exact absurd c28 (by decide)
      · have hf := ob_neg c4 hf
        refine lv_iload hx hb dX11_faultOf_34 (lv_at hl 0 rfl) ?_
        refine lv_iload_n hx hb dX11_faultOf_36 rfl (lv_at hl 3 rfl) ?_
        refine lv_icmp_le (tgt := 44) hx hb dX11_faultOf_37 (by decide) (fun c30 => ?_) (fun c30 => ?_)
        · have hf := ob_pos c30 hf
          refine lv_iconst (v := (0 : Int32)) hx hb dX11_faultOf_44 (by decide) ?_
          refine lv_istore (lv' := [(5, .int (0 : Int32)), (4, .int (v_sign y3.toNatClampNeg)), (0, .ref a_this), (1, .int y1), (2, .int y2), (3, .int y3)]) hx hb dX11_faultOf_45 hl (by decide) rfl (fun ls hl => ?_)
          refine lv_bipush (v := (-6 : Int32)) hx hb dX11_faultOf_47 (by decide) ?_
          refine lv_istore (lv' := [(6, .int (-6 : Int32)), (5, .int (0 : Int32)), (4, .int (v_sign y3.toNatClampNeg)), (0, .ref a_this), (1, .int y1), (2, .int y2), (3, .int y3)]) hx hb dX11_faultOf_49 hl (by decide) rfl (fun ls hl => ?_)
          refine lv_iload_n hx hb dX11_faultOf_51 rfl (lv_at hl 4 rfl) ?_
          refine lv_if_ne (tgt := 78) hx hb dX11_faultOf_52 (by decide) (fun c31 => ?_) (fun c31 => ?_)
          · have hf := ob_neg c31 hf
            refine lv_iload_n hx hb dX11_faultOf_78 rfl (lv_at hl 4 rfl) ?_
            refine lv_iconst (v := (1 : Int32)) hx hb dX11_faultOf_79 (by decide) ?_
            refine lv_icmp_ne (tgt := 117) hx hb dX11_faultOf_80 (by decide) (fun c32 => ?_) (fun c32 => ?_)
            · have hf := ob_neg c32 hf
              refine lv_iload_n hx hb dX11_faultOf_117 rfl (lv_at hl 4 rfl) ?_
              refine lv_iconst (v := (2 : Int32)) hx hb dX11_faultOf_118 (by decide) ?_
              refine lv_icmp_ne (tgt := 145) hx hb dX11_faultOf_119 (by decide) (fun c33 => ?_) (fun c33 => ?_)
              · have hf := ob_neg c33 hf
                refine lv_iload hx hb dX11_faultOf_145 (lv_at hl 2 rfl) ?_
                refine lv_bipush (v := (59 : Int32)) hx hb dX11_faultOf_147 (by decide) ?_
                refine lv_icmp_ne (tgt := 156) hx hb dX11_faultOf_149 (by decide) (fun c34 => ?_) (fun c34 => ?_)
                · have hf := ob_neg c34 hf
                  refine lv_bipush (v := (-6 : Int32)) hx hb dX11_faultOf_156 (by decide) ?_
                  refine lv_istore (lv' := [(6, .int (-6 : Int32)), (5, .int (0 : Int32)), (4, .int (v_sign y3.toNatClampNeg)), (0, .ref a_this), (1, .int y1), (2, .int y2), (3, .int y3)]) hx hb dX11_faultOf_158 hl (by decide) rfl (fun ls hl => ?_)
                  refine lv_iload hx hb dX11_faultOf_160 (lv_at hl 0 rfl) ?_
                  refine lv_if_ge (tgt := 167) hx hb dX11_faultOf_162 (by decide) (fun c35 => ?_) (fun c35 => ?_)
                  · exact absurd c35 (by decide)
                  · refine lv_iload_n hx hb dX11_faultOf_165 rfl (lv_at hl 6 rfl) ?_
                    obtain rfl := Option.some.inj hf
                    exact hret _ _ _ _ dX11_faultOf_166 hP hD hS
                · have hf := ob_pos c34 hf
                  refine lv_iconst (v := (0 : Int32)) hx hb dX11_faultOf_152 (by decide) ?_
                  refine lv_goto (tgt := 158) hx hb dX11_faultOf_153 (by decide) ?_
                  refine lv_istore (lv' := [(6, .int (0 : Int32)), (5, .int (0 : Int32)), (4, .int (v_sign y3.toNatClampNeg)), (0, .ref a_this), (1, .int y1), (2, .int y2), (3, .int y3)]) hx hb dX11_faultOf_158 hl (by decide) rfl (fun ls hl => ?_)
                  refine lv_iload hx hb dX11_faultOf_160 (lv_at hl 0 rfl) ?_
                  refine lv_if_ge (tgt := 167) hx hb dX11_faultOf_162 (by decide) (fun c36 => ?_) (fun c36 => ?_)
                  · refine lv_iload hx hb dX11_faultOf_167 (lv_at hl 0 rfl) ?_
                    refine lv_iconst (v := (1 : Int32)) hx hb dX11_faultOf_169 (by decide) ?_
                    refine lv_icmp_ne (tgt := 178) hx hb dX11_faultOf_170 (by decide) (fun c37 => ?_) (fun c37 => ?_)
                    · refine lv_iconst (v := (0 : Int32)) hx hb dX11_faultOf_178 (by decide) ?_
                      refine lv_istore_n (lv' := [(2, .int (0 : Int32)), (6, .int (0 : Int32)), (5, .int (0 : Int32)), (4, .int (v_sign y3.toNatClampNeg)), (0, .ref a_this), (1, .int y1), (3, .int y3)]) hx hb dX11_faultOf_179 rfl hl (by decide) rfl (fun ls hl => ?_)
                      refine lv_iload hx hb dX11_faultOf_180 (lv_at hl 1 rfl) ?_
                      refine lv_istore_n (lv' := [(1, .int (0 : Int32)), (2, .int (0 : Int32)), (6, .int (0 : Int32)), (5, .int (0 : Int32)), (4, .int (v_sign y3.toNatClampNeg)), (0, .ref a_this), (3, .int y3)]) hx hb dX11_faultOf_182 rfl hl (by decide) rfl (fun ls hl => ?_)
                      refine lv_iinc (v := (y3 + (1 : Int32))) (lv' := [(3, .int (y3 + (1 : Int32))), (1, .int (0 : Int32)), (2, .int (0 : Int32)), (6, .int (0 : Int32)), (5, .int (0 : Int32)), (4, .int (v_sign y3.toNatClampNeg)), (0, .ref a_this)]) hx hb dX11_faultOf_183 hl (k := 6) rfl rfl (by decide) rfl (fun ls hl => ?_)
                      refine lv_goto (tgt := 6) hx hb dX11_faultOf_186 (by decide) ?_
                      exact ih (0 : Int32) (0 : Int32) (y3 + (1 : Int32)) _ _ _ hf hP hD hS (lv_sub hl [6, 1, 2, 0] rfl)
                    · exact absurd c37 (by decide)
                  · exact absurd c36 (by decide)
              · have hf := ob_pos c33 hf
                refine lv_iload hx hb dX11_faultOf_122 (lv_at hl 2 rfl) ?_
                refine lv_bipush (v := (48 : Int32)) hx hb dX11_faultOf_124 (by decide) ?_
                refine lv_bipush (v := (52 : Int32)) hx hb dX11_faultOf_126 (by decide) ?_
                obtain ⟨q38, hq38, hf⟩ := ob_bind hf
                refine k_Sz (wo := (wd_X11_faultOf cyI cyJ cyZ a_this a_sets a_papers a_worths a_sign a_hallSign a_chosen a_upper a_lower v_heaps v_seats v_signs v_hallMany v_chosenSet v_paidSeats v_rhoUp v_rhoBy v_breachGroup v_sign)) (As := [.int (v_sign y3.toNatClampNeg), .int (48 : Int32), .int (52 : Int32)]) (rest := []) C (c_X11_in l D cyI cyJ cyZ   (v_sign y3.toNatClampNeg) (48 : Int32) (52 : Int32) q38 hq38) cw42 hP hD hS [] [0, 1] [0, 1] rfl rfl rfl (by decide) rfl rfl hl.1 (Nat.le_of_ble_eq_true rfl) dX11_faultOf_128 ⟨Nat.zero_le _, Nat.zero_le _⟩ (fun H locs zq38 hP hD hS => ?_)
                refine lv_if_eq (tgt := 138) hx hb dX11_faultOf_131 (by decide) (fun c39 => ?_) (fun c39 => ?_)
                · have hf := ob_pos c39 hf
                  refine lv_bipush (v := (-6 : Int32)) hx hb dX11_faultOf_138 (by decide) ?_
                  refine lv_istore (lv' := [(6, .int (-6 : Int32)), (5, .int (0 : Int32)), (4, .int (v_sign y3.toNatClampNeg)), (0, .ref a_this), (1, .int y1), (2, .int y2), (3, .int y3)]) hx hb dX11_faultOf_140 hl (by decide) rfl (fun ls hl => ?_)
                  refine lv_goto (tgt := 160) hx hb dX11_faultOf_142 (by decide) ?_
                  refine lv_iload hx hb dX11_faultOf_160 (lv_at hl 0 rfl) ?_
                  refine lv_if_ge (tgt := 167) hx hb dX11_faultOf_162 (by decide) (fun c40 => ?_) (fun c40 => ?_)
                  · exact absurd c40 (by decide)
                  · refine lv_iload_n hx hb dX11_faultOf_165 rfl (lv_at hl 6 rfl) ?_
                    obtain rfl := Option.some.inj hf
                    exact hret _ _ _ _ dX11_faultOf_166 hP hD hS
                · have hf := ob_neg c39 hf
                  refine lv_iconst (v := (3 : Int32)) hx hb dX11_faultOf_134 (by decide) ?_
                  refine lv_goto (tgt := 140) hx hb dX11_faultOf_135 (by decide) ?_
                  refine lv_istore (lv' := [(6, .int (3 : Int32)), (5, .int (0 : Int32)), (4, .int (v_sign y3.toNatClampNeg)), (0, .ref a_this), (1, .int y1), (2, .int y2), (3, .int y3)]) hx hb dX11_faultOf_140 hl (by decide) rfl (fun ls hl => ?_)
                  refine lv_goto (tgt := 160) hx hb dX11_faultOf_142 (by decide) ?_
                  refine lv_iload hx hb dX11_faultOf_160 (lv_at hl 0 rfl) ?_
                  refine lv_if_ge (tgt := 167) hx hb dX11_faultOf_162 (by decide) (fun c41 => ?_) (fun c41 => ?_)
                  · refine lv_iload hx hb dX11_faultOf_167 (lv_at hl 0 rfl) ?_
                    refine lv_iconst (v := (1 : Int32)) hx hb dX11_faultOf_169 (by decide) ?_
                    refine lv_icmp_ne (tgt := 178) hx hb dX11_faultOf_170 (by decide) (fun c42 => ?_) (fun c42 => ?_)
                    · refine lv_iconst (v := (0 : Int32)) hx hb dX11_faultOf_178 (by decide) ?_
                      refine lv_istore_n (lv' := [(2, .int (0 : Int32)), (6, .int (3 : Int32)), (5, .int (0 : Int32)), (4, .int (v_sign y3.toNatClampNeg)), (0, .ref a_this), (1, .int y1), (3, .int y3)]) hx hb dX11_faultOf_179 rfl hl (by decide) rfl (fun ls hl => ?_)
                      refine lv_iload hx hb dX11_faultOf_180 (lv_at hl 1 rfl) ?_
                      refine lv_istore_n (lv' := [(1, .int (3 : Int32)), (2, .int (0 : Int32)), (6, .int (3 : Int32)), (5, .int (0 : Int32)), (4, .int (v_sign y3.toNatClampNeg)), (0, .ref a_this), (3, .int y3)]) hx hb dX11_faultOf_182 rfl hl (by decide) rfl (fun ls hl => ?_)
                      refine lv_iinc (v := (y3 + (1 : Int32))) (lv' := [(3, .int (y3 + (1 : Int32))), (1, .int (3 : Int32)), (2, .int (0 : Int32)), (6, .int (3 : Int32)), (5, .int (0 : Int32)), (4, .int (v_sign y3.toNatClampNeg)), (0, .ref a_this)]) hx hb dX11_faultOf_183 hl (k := 6) rfl rfl (by decide) rfl (fun ls hl => ?_)
                      refine lv_goto (tgt := 6) hx hb dX11_faultOf_186 (by decide) ?_
                      exact ih (3 : Int32) (0 : Int32) (y3 + (1 : Int32)) _ _ _ hf hP hD hS (lv_sub hl [6, 1, 2, 0] rfl)
                    · exact absurd c42 (by decide)
                  · exact absurd c41 (by decide)
            · have hf := ob_pos c32 hf
              refine lv_iload hx hb dX11_faultOf_83 (lv_at hl 1 rfl) ?_
              refine lv_if_eq (tgt := 92) hx hb dX11_faultOf_85 (by decide) (fun c43 => ?_) (fun c43 => ?_)
              · refine lv_iload hx hb dX11_faultOf_92 (lv_at hl 2 rfl) ?_
                refine lv_bipush (v := (60 : Int32)) hx hb dX11_faultOf_94 (by decide) ?_
                refine lv_icmp_eq (tgt := 106) hx hb dX11_faultOf_96 (by decide) (fun c44 => ?_) (fun c44 => ?_)
                · have hf := ob_pos c44 hf
                  refine lv_iconst (v := (2 : Int32)) hx hb dX11_faultOf_106 (by decide) ?_
                  refine lv_goto (tgt := 112) hx hb dX11_faultOf_107 (by decide) ?_
                  refine lv_istore (lv' := [(6, .int (2 : Int32)), (5, .int (0 : Int32)), (4, .int (v_sign y3.toNatClampNeg)), (0, .ref a_this), (1, .int y1), (2, .int y2), (3, .int y3)]) hx hb dX11_faultOf_112 hl (by decide) rfl (fun ls hl => ?_)
                  refine lv_goto (tgt := 160) hx hb dX11_faultOf_114 (by decide) ?_
                  refine lv_iload hx hb dX11_faultOf_160 (lv_at hl 0 rfl) ?_
                  refine lv_if_ge (tgt := 167) hx hb dX11_faultOf_162 (by decide) (fun c45 => ?_) (fun c45 => ?_)
                  · refine lv_iload hx hb dX11_faultOf_167 (lv_at hl 0 rfl) ?_
                    refine lv_iconst (v := (1 : Int32)) hx hb dX11_faultOf_169 (by decide) ?_
                    refine lv_icmp_ne (tgt := 178) hx hb dX11_faultOf_170 (by decide) (fun c46 => ?_) (fun c46 => ?_)
                    · refine lv_iconst (v := (0 : Int32)) hx hb dX11_faultOf_178 (by decide) ?_
                      refine lv_istore_n (lv' := [(2, .int (0 : Int32)), (6, .int (2 : Int32)), (5, .int (0 : Int32)), (4, .int (v_sign y3.toNatClampNeg)), (0, .ref a_this), (1, .int y1), (3, .int y3)]) hx hb dX11_faultOf_179 rfl hl (by decide) rfl (fun ls hl => ?_)
                      refine lv_iload hx hb dX11_faultOf_180 (lv_at hl 1 rfl) ?_
                      refine lv_istore_n (lv' := [(1, .int (2 : Int32)), (2, .int (0 : Int32)), (6, .int (2 : Int32)), (5, .int (0 : Int32)), (4, .int (v_sign y3.toNatClampNeg)), (0, .ref a_this), (3, .int y3)]) hx hb dX11_faultOf_182 rfl hl (by decide) rfl (fun ls hl => ?_)
                      refine lv_iinc (v := (y3 + (1 : Int32))) (lv' := [(3, .int (y3 + (1 : Int32))), (1, .int (2 : Int32)), (2, .int (0 : Int32)), (6, .int (2 : Int32)), (5, .int (0 : Int32)), (4, .int (v_sign y3.toNatClampNeg)), (0, .ref a_this)]) hx hb dX11_faultOf_183 hl (k := 6) rfl rfl (by decide) rfl (fun ls hl => ?_)
                      refine lv_goto (tgt := 6) hx hb dX11_faultOf_186 (by decide) ?_
                      exact ih (2 : Int32) (0 : Int32) (y3 + (1 : Int32)) _ _ _ hf hP hD hS (lv_sub hl [6, 1, 2, 0] rfl)
                    · exact absurd c46 (by decide)
                  · exact absurd c45 (by decide)
                · have hf := ob_neg c44 hf
                  refine lv_iload hx hb dX11_faultOf_99 (lv_at hl 2 rfl) ?_
                  refine lv_bipush (v := (62 : Int32)) hx hb dX11_faultOf_101 (by decide) ?_
                  refine lv_icmp_ne (tgt := 110) hx hb dX11_faultOf_103 (by decide) (fun c47 => ?_) (fun c47 => ?_)
                  · have hf := ob_neg c47 hf
                    refine lv_bipush (v := (-6 : Int32)) hx hb dX11_faultOf_110 (by decide) ?_
                    refine lv_istore (lv' := [(6, .int (-6 : Int32)), (5, .int (0 : Int32)), (4, .int (v_sign y3.toNatClampNeg)), (0, .ref a_this), (1, .int y1), (2, .int y2), (3, .int y3)]) hx hb dX11_faultOf_112 hl (by decide) rfl (fun ls hl => ?_)
                    refine lv_goto (tgt := 160) hx hb dX11_faultOf_114 (by decide) ?_
                    refine lv_iload hx hb dX11_faultOf_160 (lv_at hl 0 rfl) ?_
                    refine lv_if_ge (tgt := 167) hx hb dX11_faultOf_162 (by decide) (fun c48 => ?_) (fun c48 => ?_)
                    · exact absurd c48 (by decide)
                    · refine lv_iload_n hx hb dX11_faultOf_165 rfl (lv_at hl 6 rfl) ?_
                      obtain rfl := Option.some.inj hf
                      exact hret _ _ _ _ dX11_faultOf_166 hP hD hS
                  · have hf := ob_pos c47 hf
                    refine lv_iconst (v := (2 : Int32)) hx hb dX11_faultOf_106 (by decide) ?_
                    refine lv_goto (tgt := 112) hx hb dX11_faultOf_107 (by decide) ?_
                    refine lv_istore (lv' := [(6, .int (2 : Int32)), (5, .int (0 : Int32)), (4, .int (v_sign y3.toNatClampNeg)), (0, .ref a_this), (1, .int y1), (2, .int y2), (3, .int y3)]) hx hb dX11_faultOf_112 hl (by decide) rfl (fun ls hl => ?_)
                    refine lv_goto (tgt := 160) hx hb dX11_faultOf_114 (by decide) ?_
                    refine lv_iload hx hb dX11_faultOf_160 (lv_at hl 0 rfl) ?_
                    refine lv_if_ge (tgt := 167) hx hb dX11_faultOf_162 (by decide) (fun c49 => ?_) (fun c49 => ?_)
                    · refine lv_iload hx hb dX11_faultOf_167 (lv_at hl 0 rfl) ?_
                      refine lv_iconst (v := (1 : Int32)) hx hb dX11_faultOf_169 (by decide) ?_
                      refine lv_icmp_ne (tgt := 178) hx hb dX11_faultOf_170 (by decide) (fun c50 => ?_) (fun c50 => ?_)
                      · refine lv_iconst (v := (0 : Int32)) hx hb dX11_faultOf_178 (by decide) ?_
                        refine lv_istore_n (lv' := [(2, .int (0 : Int32)), (6, .int (2 : Int32)), (5, .int (0 : Int32)), (4, .int (v_sign y3.toNatClampNeg)), (0, .ref a_this), (1, .int y1), (3, .int y3)]) hx hb dX11_faultOf_179 rfl hl (by decide) rfl (fun ls hl => ?_)
                        refine lv_iload hx hb dX11_faultOf_180 (lv_at hl 1 rfl) ?_
                        refine lv_istore_n (lv' := [(1, .int (2 : Int32)), (2, .int (0 : Int32)), (6, .int (2 : Int32)), (5, .int (0 : Int32)), (4, .int (v_sign y3.toNatClampNeg)), (0, .ref a_this), (3, .int y3)]) hx hb dX11_faultOf_182 rfl hl (by decide) rfl (fun ls hl => ?_)
                        refine lv_iinc (v := (y3 + (1 : Int32))) (lv' := [(3, .int (y3 + (1 : Int32))), (1, .int (2 : Int32)), (2, .int (0 : Int32)), (6, .int (2 : Int32)), (5, .int (0 : Int32)), (4, .int (v_sign y3.toNatClampNeg)), (0, .ref a_this)]) hx hb dX11_faultOf_183 hl (k := 6) rfl rfl (by decide) rfl (fun ls hl => ?_)
                        refine lv_goto (tgt := 6) hx hb dX11_faultOf_186 (by decide) ?_
                        exact ih (2 : Int32) (0 : Int32) (y3 + (1 : Int32)) _ _ _ hf hP hD hS (lv_sub hl [6, 1, 2, 0] rfl)
                      · exact absurd c50 (by decide)
                    · exact absurd c49 (by decide)
              · exact absurd c43 (by decide)
          · have hf := ob_pos c31 hf
            refine lv_iload hx hb dX11_faultOf_55 (lv_at hl 2 rfl) ?_
            refine lv_bipush (v := (97 : Int32)) hx hb dX11_faultOf_57 (by decide) ?_
            refine lv_bipush (v := (104 : Int32)) hx hb dX11_faultOf_59 (by decide) ?_
            obtain ⟨q51, hq51, hf⟩ := ob_bind hf
            refine k_Sz (wo := (wd_X11_faultOf cyI cyJ cyZ a_this a_sets a_papers a_worths a_sign a_hallSign a_chosen a_upper a_lower v_heaps v_seats v_signs v_hallMany v_chosenSet v_paidSeats v_rhoUp v_rhoBy v_breachGroup v_sign)) (As := [.int (v_sign y3.toNatClampNeg), .int (97 : Int32), .int (104 : Int32)]) (rest := []) C (c_X11_in l D cyI cyJ cyZ   (v_sign y3.toNatClampNeg) (97 : Int32) (104 : Int32) q51 hq51) cw42 hP hD hS [] [0, 1] [0, 1] rfl rfl rfl (by decide) rfl rfl hl.1 (Nat.le_of_ble_eq_true rfl) dX11_faultOf_61 ⟨Nat.zero_le _, Nat.zero_le _⟩ (fun H locs zq51 hP hD hS => ?_)
            refine lv_if_eq (tgt := 71) hx hb dX11_faultOf_64 (by decide) (fun c52 => ?_) (fun c52 => ?_)
            · have hf := ob_pos c52 hf
              refine lv_bipush (v := (-6 : Int32)) hx hb dX11_faultOf_71 (by decide) ?_
              refine lv_istore (lv' := [(6, .int (-6 : Int32)), (5, .int (0 : Int32)), (4, .int (v_sign y3.toNatClampNeg)), (0, .ref a_this), (1, .int y1), (2, .int y2), (3, .int y3)]) hx hb dX11_faultOf_73 hl (by decide) rfl (fun ls hl => ?_)
              refine lv_goto (tgt := 160) hx hb dX11_faultOf_75 (by decide) ?_
              refine lv_iload hx hb dX11_faultOf_160 (lv_at hl 0 rfl) ?_
              refine lv_if_ge (tgt := 167) hx hb dX11_faultOf_162 (by decide) (fun c53 => ?_) (fun c53 => ?_)
              · exact absurd c53 (by decide)
              · refine lv_iload_n hx hb dX11_faultOf_165 rfl (lv_at hl 6 rfl) ?_
                obtain rfl := Option.some.inj hf
                exact hret _ _ _ _ dX11_faultOf_166 hP hD hS
            · have hf := ob_neg c52 hf
              refine lv_iconst (v := (1 : Int32)) hx hb dX11_faultOf_67 (by decide) ?_
              refine lv_goto (tgt := 73) hx hb dX11_faultOf_68 (by decide) ?_
              refine lv_istore (lv' := [(6, .int (1 : Int32)), (5, .int (0 : Int32)), (4, .int (v_sign y3.toNatClampNeg)), (0, .ref a_this), (1, .int y1), (2, .int y2), (3, .int y3)]) hx hb dX11_faultOf_73 hl (by decide) rfl (fun ls hl => ?_)
              refine lv_goto (tgt := 160) hx hb dX11_faultOf_75 (by decide) ?_
              refine lv_iload hx hb dX11_faultOf_160 (lv_at hl 0 rfl) ?_
              refine lv_if_ge (tgt := 167) hx hb dX11_faultOf_162 (by decide) (fun c54 => ?_) (fun c54 => ?_)
              · refine lv_iload hx hb dX11_faultOf_167 (lv_at hl 0 rfl) ?_
                refine lv_iconst (v := (1 : Int32)) hx hb dX11_faultOf_169 (by decide) ?_
                refine lv_icmp_ne (tgt := 178) hx hb dX11_faultOf_170 (by decide) (fun c55 => ?_) (fun c55 => ?_)
                · exact absurd c55 (by decide)
                · refine lv_iload hx hb dX11_faultOf_173 (lv_at hl 2 rfl) ?_
                  refine lv_goto (tgt := 179) hx hb dX11_faultOf_175 (by decide) ?_
                  refine lv_istore_n (lv' := [(2, .int (v_sign y3.toNatClampNeg)), (6, .int (1 : Int32)), (5, .int (0 : Int32)), (4, .int (v_sign y3.toNatClampNeg)), (0, .ref a_this), (1, .int y1), (3, .int y3)]) hx hb dX11_faultOf_179 rfl hl (by decide) rfl (fun ls hl => ?_)
                  refine lv_iload hx hb dX11_faultOf_180 (lv_at hl 1 rfl) ?_
                  refine lv_istore_n (lv' := [(1, .int (1 : Int32)), (2, .int (v_sign y3.toNatClampNeg)), (6, .int (1 : Int32)), (5, .int (0 : Int32)), (4, .int (v_sign y3.toNatClampNeg)), (0, .ref a_this), (3, .int y3)]) hx hb dX11_faultOf_182 rfl hl (by decide) rfl (fun ls hl => ?_)
                  refine lv_iinc (v := (y3 + (1 : Int32))) (lv' := [(3, .int (y3 + (1 : Int32))), (1, .int (1 : Int32)), (2, .int (v_sign y3.toNatClampNeg)), (6, .int (1 : Int32)), (5, .int (0 : Int32)), (4, .int (v_sign y3.toNatClampNeg)), (0, .ref a_this)]) hx hb dX11_faultOf_183 hl (k := 6) rfl rfl (by decide) rfl (fun ls hl => ?_)
                  refine lv_goto (tgt := 6) hx hb dX11_faultOf_186 (by decide) ?_
                  exact ih (1 : Int32) (v_sign y3.toNatClampNeg) (y3 + (1 : Int32)) _ _ _ hf hP hD hS (lv_sub hl [6, 1, 2, 0] rfl)
              · exact absurd c54 (by decide)
        · have hf := ob_neg c30 hf
          refine lv_iconst (v := (1 : Int32)) hx hb dX11_faultOf_40 (by decide) ?_
          refine lv_goto (tgt := 45) hx hb dX11_faultOf_41 (by decide) ?_
          refine lv_istore (lv' := [(5, .int (1 : Int32)), (4, .int (v_sign y3.toNatClampNeg)), (0, .ref a_this), (1, .int y1), (2, .int y2), (3, .int y3)]) hx hb dX11_faultOf_45 hl (by decide) rfl (fun ls hl => ?_)
          refine lv_bipush (v := (-6 : Int32)) hx hb dX11_faultOf_47 (by decide) ?_
          refine lv_istore (lv' := [(6, .int (-6 : Int32)), (5, .int (1 : Int32)), (4, .int (v_sign y3.toNatClampNeg)), (0, .ref a_this), (1, .int y1), (2, .int y2), (3, .int y3)]) hx hb dX11_faultOf_49 hl (by decide) rfl (fun ls hl => ?_)
          refine lv_iload_n hx hb dX11_faultOf_51 rfl (lv_at hl 4 rfl) ?_
          refine lv_if_ne (tgt := 78) hx hb dX11_faultOf_52 (by decide) (fun c56 => ?_) (fun c56 => ?_)
          · have hf := ob_neg c56 hf
            refine lv_iload_n hx hb dX11_faultOf_78 rfl (lv_at hl 4 rfl) ?_
            refine lv_iconst (v := (1 : Int32)) hx hb dX11_faultOf_79 (by decide) ?_
            refine lv_icmp_ne (tgt := 117) hx hb dX11_faultOf_80 (by decide) (fun c57 => ?_) (fun c57 => ?_)
            · have hf := ob_neg c57 hf
              refine lv_iload_n hx hb dX11_faultOf_117 rfl (lv_at hl 4 rfl) ?_
              refine lv_iconst (v := (2 : Int32)) hx hb dX11_faultOf_118 (by decide) ?_
              refine lv_icmp_ne (tgt := 145) hx hb dX11_faultOf_119 (by decide) (fun c58 => ?_) (fun c58 => ?_)
              · have hf := ob_neg c58 hf
                refine lv_iload hx hb dX11_faultOf_145 (lv_at hl 2 rfl) ?_
                refine lv_bipush (v := (59 : Int32)) hx hb dX11_faultOf_147 (by decide) ?_
                refine lv_icmp_ne (tgt := 156) hx hb dX11_faultOf_149 (by decide) (fun c59 => ?_) (fun c59 => ?_)
                · have hf := ob_neg c59 hf
                  refine lv_bipush (v := (-6 : Int32)) hx hb dX11_faultOf_156 (by decide) ?_
                  refine lv_istore (lv' := [(6, .int (-6 : Int32)), (5, .int (1 : Int32)), (4, .int (v_sign y3.toNatClampNeg)), (0, .ref a_this), (1, .int y1), (2, .int y2), (3, .int y3)]) hx hb dX11_faultOf_158 hl (by decide) rfl (fun ls hl => ?_)
                  refine lv_iload hx hb dX11_faultOf_160 (lv_at hl 0 rfl) ?_
                  refine lv_if_ge (tgt := 167) hx hb dX11_faultOf_162 (by decide) (fun c60 => ?_) (fun c60 => ?_)
                  · exact absurd c60 (by decide)
                  · refine lv_iload_n hx hb dX11_faultOf_165 rfl (lv_at hl 6 rfl) ?_
                    obtain rfl := Option.some.inj hf
                    exact hret _ _ _ _ dX11_faultOf_166 hP hD hS
                · have hf := ob_pos c59 hf
                  refine lv_iconst (v := (0 : Int32)) hx hb dX11_faultOf_152 (by decide) ?_
                  refine lv_goto (tgt := 158) hx hb dX11_faultOf_153 (by decide) ?_
                  refine lv_istore (lv' := [(6, .int (0 : Int32)), (5, .int (1 : Int32)), (4, .int (v_sign y3.toNatClampNeg)), (0, .ref a_this), (1, .int y1), (2, .int y2), (3, .int y3)]) hx hb dX11_faultOf_158 hl (by decide) rfl (fun ls hl => ?_)
                  refine lv_iload hx hb dX11_faultOf_160 (lv_at hl 0 rfl) ?_
                  refine lv_if_ge (tgt := 167) hx hb dX11_faultOf_162 (by decide) (fun c61 => ?_) (fun c61 => ?_)
                  · refine lv_iload hx hb dX11_faultOf_167 (lv_at hl 0 rfl) ?_
                    refine lv_iconst (v := (1 : Int32)) hx hb dX11_faultOf_169 (by decide) ?_
                    refine lv_icmp_ne (tgt := 178) hx hb dX11_faultOf_170 (by decide) (fun c62 => ?_) (fun c62 => ?_)
                    · refine lv_iconst (v := (0 : Int32)) hx hb dX11_faultOf_178 (by decide) ?_
                      refine lv_istore_n (lv' := [(2, .int (0 : Int32)), (6, .int (0 : Int32)), (5, .int (1 : Int32)), (4, .int (v_sign y3.toNatClampNeg)), (0, .ref a_this), (1, .int y1), (3, .int y3)]) hx hb dX11_faultOf_179 rfl hl (by decide) rfl (fun ls hl => ?_)
                      refine lv_iload hx hb dX11_faultOf_180 (lv_at hl 1 rfl) ?_
                      refine lv_istore_n (lv' := [(1, .int (0 : Int32)), (2, .int (0 : Int32)), (6, .int (0 : Int32)), (5, .int (1 : Int32)), (4, .int (v_sign y3.toNatClampNeg)), (0, .ref a_this), (3, .int y3)]) hx hb dX11_faultOf_182 rfl hl (by decide) rfl (fun ls hl => ?_)
                      refine lv_iinc (v := (y3 + (1 : Int32))) (lv' := [(3, .int (y3 + (1 : Int32))), (1, .int (0 : Int32)), (2, .int (0 : Int32)), (6, .int (0 : Int32)), (5, .int (1 : Int32)), (4, .int (v_sign y3.toNatClampNeg)), (0, .ref a_this)]) hx hb dX11_faultOf_183 hl (k := 6) rfl rfl (by decide) rfl (fun ls hl => ?_)
                      refine lv_goto (tgt := 6) hx hb dX11_faultOf_186 (by decide) ?_
                      exact ih (0 : Int32) (0 : Int32) (y3 + (1 : Int32)) _ _ _ hf hP hD hS (lv_sub hl [6, 1, 2, 0] rfl)
                    · exact absurd c62 (by decide)
                  · exact absurd c61 (by decide)
              · have hf := ob_pos c58 hf
                refine lv_iload hx hb dX11_faultOf_122 (lv_at hl 2 rfl) ?_
                refine lv_bipush (v := (48 : Int32)) hx hb dX11_faultOf_124 (by decide) ?_
                refine lv_bipush (v := (52 : Int32)) hx hb dX11_faultOf_126 (by decide) ?_
                obtain ⟨q63, hq63, hf⟩ := ob_bind hf
                refine k_Sz (wo := (wd_X11_faultOf cyI cyJ cyZ a_this a_sets a_papers a_worths a_sign a_hallSign a_chosen a_upper a_lower v_heaps v_seats v_signs v_hallMany v_chosenSet v_paidSeats v_rhoUp v_rhoBy v_breachGroup v_sign)) (As := [.int (v_sign y3.toNatClampNeg), .int (48 : Int32), .int (52 : Int32)]) (rest := []) C (c_X11_in l D cyI cyJ cyZ   (v_sign y3.toNatClampNeg) (48 : Int32) (52 : Int32) q63 hq63) cw42 hP hD hS [] [0, 1] [0, 1] rfl rfl rfl (by decide) rfl rfl hl.1 (Nat.le_of_ble_eq_true rfl) dX11_faultOf_128 ⟨Nat.zero_le _, Nat.zero_le _⟩ (fun H locs zq63 hP hD hS => ?_)
                refine lv_if_eq (tgt := 138) hx hb dX11_faultOf_131 (by decide) (fun c64 => ?_) (fun c64 => ?_)
                · have hf := ob_pos c64 hf
                  refine lv_bipush (v := (-6 : Int32)) hx hb dX11_faultOf_138 (by decide) ?_
                  refine lv_istore (lv' := [(6, .int (-6 : Int32)), (5, .int (1 : Int32)), (4, .int (v_sign y3.toNatClampNeg)), (0, .ref a_this), (1, .int y1), (2, .int y2), (3, .int y3)]) hx hb dX11_faultOf_140 hl (by decide) rfl (fun ls hl => ?_)
                  refine lv_goto (tgt := 160) hx hb dX11_faultOf_142 (by decide) ?_
                  refine lv_iload hx hb dX11_faultOf_160 (lv_at hl 0 rfl) ?_
                  refine lv_if_ge (tgt := 167) hx hb dX11_faultOf_162 (by decide) (fun c65 => ?_) (fun c65 => ?_)
                  · exact absurd c65 (by decide)
                  · refine lv_iload_n hx hb dX11_faultOf_165 rfl (lv_at hl 6 rfl) ?_
                    obtain rfl := Option.some.inj hf
                    exact hret _ _ _ _ dX11_faultOf_166 hP hD hS
                · have hf := ob_neg c64 hf
                  refine lv_iconst (v := (3 : Int32)) hx hb dX11_faultOf_134 (by decide) ?_
                  refine lv_goto (tgt := 140) hx hb dX11_faultOf_135 (by decide) ?_
                  refine lv_istore (lv' := [(6, .int (3 : Int32)), (5, .int (1 : Int32)), (4, .int (v_sign y3.toNatClampNeg)), (0, .ref a_this), (1, .int y1), (2, .int y2), (3, .int y3)]) hx hb dX11_faultOf_140 hl (by decide) rfl (fun ls hl => ?_)
                  refine lv_goto (tgt := 160) hx hb dX11_faultOf_142 (by decide) ?_
                  refine lv_iload hx hb dX11_faultOf_160 (lv_at hl 0 rfl) ?_
                  refine lv_if_ge (tgt := 167) hx hb dX11_faultOf_162 (by decide) (fun c66 => ?_) (fun c66 => ?_)
                  · refine lv_iload hx hb dX11_faultOf_167 (lv_at hl 0 rfl) ?_
                    refine lv_iconst (v := (1 : Int32)) hx hb dX11_faultOf_169 (by decide) ?_
                    refine lv_icmp_ne (tgt := 178) hx hb dX11_faultOf_170 (by decide) (fun c67 => ?_) (fun c67 => ?_)
                    · refine lv_iconst (v := (0 : Int32)) hx hb dX11_faultOf_178 (by decide) ?_
                      refine lv_istore_n (lv' := [(2, .int (0 : Int32)), (6, .int (3 : Int32)), (5, .int (1 : Int32)), (4, .int (v_sign y3.toNatClampNeg)), (0, .ref a_this), (1, .int y1), (3, .int y3)]) hx hb dX11_faultOf_179 rfl hl (by decide) rfl (fun ls hl => ?_)
                      refine lv_iload hx hb dX11_faultOf_180 (lv_at hl 1 rfl) ?_
                      refine lv_istore_n (lv' := [(1, .int (3 : Int32)), (2, .int (0 : Int32)), (6, .int (3 : Int32)), (5, .int (1 : Int32)), (4, .int (v_sign y3.toNatClampNeg)), (0, .ref a_this), (3, .int y3)]) hx hb dX11_faultOf_182 rfl hl (by decide) rfl (fun ls hl => ?_)
                      refine lv_iinc (v := (y3 + (1 : Int32))) (lv' := [(3, .int (y3 + (1 : Int32))), (1, .int (3 : Int32)), (2, .int (0 : Int32)), (6, .int (3 : Int32)), (5, .int (1 : Int32)), (4, .int (v_sign y3.toNatClampNeg)), (0, .ref a_this)]) hx hb dX11_faultOf_183 hl (k := 6) rfl rfl (by decide) rfl (fun ls hl => ?_)
                      refine lv_goto (tgt := 6) hx hb dX11_faultOf_186 (by decide) ?_
                      exact ih (3 : Int32) (0 : Int32) (y3 + (1 : Int32)) _ _ _ hf hP hD hS (lv_sub hl [6, 1, 2, 0] rfl)
                    · exact absurd c67 (by decide)
                  · exact absurd c66 (by decide)
            · have hf := ob_pos c57 hf
              refine lv_iload hx hb dX11_faultOf_83 (lv_at hl 1 rfl) ?_
              refine lv_if_eq (tgt := 92) hx hb dX11_faultOf_85 (by decide) (fun c68 => ?_) (fun c68 => ?_)
              · exact absurd c68 (by decide)
              · refine lv_iconst (v := (1 : Int32)) hx hb dX11_faultOf_88 (by decide) ?_
                refine lv_goto (tgt := 112) hx hb dX11_faultOf_89 (by decide) ?_
                refine lv_istore (lv' := [(6, .int (1 : Int32)), (5, .int (1 : Int32)), (4, .int (v_sign y3.toNatClampNeg)), (0, .ref a_this), (1, .int y1), (2, .int y2), (3, .int y3)]) hx hb dX11_faultOf_112 hl (by decide) rfl (fun ls hl => ?_)
                refine lv_goto (tgt := 160) hx hb dX11_faultOf_114 (by decide) ?_
                refine lv_iload hx hb dX11_faultOf_160 (lv_at hl 0 rfl) ?_
                refine lv_if_ge (tgt := 167) hx hb dX11_faultOf_162 (by decide) (fun c69 => ?_) (fun c69 => ?_)
                · refine lv_iload hx hb dX11_faultOf_167 (lv_at hl 0 rfl) ?_
                  refine lv_iconst (v := (1 : Int32)) hx hb dX11_faultOf_169 (by decide) ?_
                  refine lv_icmp_ne (tgt := 178) hx hb dX11_faultOf_170 (by decide) (fun c70 => ?_) (fun c70 => ?_)
                  · exact absurd c70 (by decide)
                  · refine lv_iload hx hb dX11_faultOf_173 (lv_at hl 2 rfl) ?_
                    refine lv_goto (tgt := 179) hx hb dX11_faultOf_175 (by decide) ?_
                    refine lv_istore_n (lv' := [(2, .int (v_sign y3.toNatClampNeg)), (6, .int (1 : Int32)), (5, .int (1 : Int32)), (4, .int (v_sign y3.toNatClampNeg)), (0, .ref a_this), (1, .int y1), (3, .int y3)]) hx hb dX11_faultOf_179 rfl hl (by decide) rfl (fun ls hl => ?_)
                    refine lv_iload hx hb dX11_faultOf_180 (lv_at hl 1 rfl) ?_
                    refine lv_istore_n (lv' := [(1, .int (1 : Int32)), (2, .int (v_sign y3.toNatClampNeg)), (6, .int (1 : Int32)), (5, .int (1 : Int32)), (4, .int (v_sign y3.toNatClampNeg)), (0, .ref a_this), (3, .int y3)]) hx hb dX11_faultOf_182 rfl hl (by decide) rfl (fun ls hl => ?_)
                    refine lv_iinc (v := (y3 + (1 : Int32))) (lv' := [(3, .int (y3 + (1 : Int32))), (1, .int (1 : Int32)), (2, .int (v_sign y3.toNatClampNeg)), (6, .int (1 : Int32)), (5, .int (1 : Int32)), (4, .int (v_sign y3.toNatClampNeg)), (0, .ref a_this)]) hx hb dX11_faultOf_183 hl (k := 6) rfl rfl (by decide) rfl (fun ls hl => ?_)
                    refine lv_goto (tgt := 6) hx hb dX11_faultOf_186 (by decide) ?_
                    exact ih (1 : Int32) (v_sign y3.toNatClampNeg) (y3 + (1 : Int32)) _ _ _ hf hP hD hS (lv_sub hl [6, 1, 2, 0] rfl)
                · exact absurd c69 (by decide)
          · have hf := ob_pos c56 hf
            refine lv_iload hx hb dX11_faultOf_55 (lv_at hl 2 rfl) ?_
            refine lv_bipush (v := (97 : Int32)) hx hb dX11_faultOf_57 (by decide) ?_
            refine lv_bipush (v := (104 : Int32)) hx hb dX11_faultOf_59 (by decide) ?_
            obtain ⟨q71, hq71, hf⟩ := ob_bind hf
            refine k_Sz (wo := (wd_X11_faultOf cyI cyJ cyZ a_this a_sets a_papers a_worths a_sign a_hallSign a_chosen a_upper a_lower v_heaps v_seats v_signs v_hallMany v_chosenSet v_paidSeats v_rhoUp v_rhoBy v_breachGroup v_sign)) (As := [.int (v_sign y3.toNatClampNeg), .int (97 : Int32), .int (104 : Int32)]) (rest := []) C (c_X11_in l D cyI cyJ cyZ   (v_sign y3.toNatClampNeg) (97 : Int32) (104 : Int32) q71 hq71) cw42 hP hD hS [] [0, 1] [0, 1] rfl rfl rfl (by decide) rfl rfl hl.1 (Nat.le_of_ble_eq_true rfl) dX11_faultOf_61 ⟨Nat.zero_le _, Nat.zero_le _⟩ (fun H locs zq71 hP hD hS => ?_)
            refine lv_if_eq (tgt := 71) hx hb dX11_faultOf_64 (by decide) (fun c72 => ?_) (fun c72 => ?_)
            · have hf := ob_pos c72 hf
              refine lv_bipush (v := (-6 : Int32)) hx hb dX11_faultOf_71 (by decide) ?_
              refine lv_istore (lv' := [(6, .int (-6 : Int32)), (5, .int (1 : Int32)), (4, .int (v_sign y3.toNatClampNeg)), (0, .ref a_this), (1, .int y1), (2, .int y2), (3, .int y3)]) hx hb dX11_faultOf_73 hl (by decide) rfl (fun ls hl => ?_)
              refine lv_goto (tgt := 160) hx hb dX11_faultOf_75 (by decide) ?_
              refine lv_iload hx hb dX11_faultOf_160 (lv_at hl 0 rfl) ?_
              refine lv_if_ge (tgt := 167) hx hb dX11_faultOf_162 (by decide) (fun c73 => ?_) (fun c73 => ?_)
              · exact absurd c73 (by decide)
              · refine lv_iload_n hx hb dX11_faultOf_165 rfl (lv_at hl 6 rfl) ?_
                obtain rfl := Option.some.inj hf
                exact hret _ _ _ _ dX11_faultOf_166 hP hD hS
            · have hf := ob_neg c72 hf
              refine lv_iconst (v := (1 : Int32)) hx hb dX11_faultOf_67 (by decide) ?_
              refine lv_goto (tgt := 73) hx hb dX11_faultOf_68 (by decide) ?_
              refine lv_istore (lv' := [(6, .int (1 : Int32)), (5, .int (1 : Int32)), (4, .int (v_sign y3.toNatClampNeg)), (0, .ref a_this), (1, .int y1), (2, .int y2), (3, .int y3)]) hx hb dX11_faultOf_73 hl (by decide) rfl (fun ls hl => ?_)
              refine lv_goto (tgt := 160) hx hb dX11_faultOf_75 (by decide) ?_
              refine lv_iload hx hb dX11_faultOf_160 (lv_at hl 0 rfl) ?_
              refine lv_if_ge (tgt := 167) hx hb dX11_faultOf_162 (by decide) (fun c74 => ?_) (fun c74 => ?_)
              · refine lv_iload hx hb dX11_faultOf_167 (lv_at hl 0 rfl) ?_
                refine lv_iconst (v := (1 : Int32)) hx hb dX11_faultOf_169 (by decide) ?_
                refine lv_icmp_ne (tgt := 178) hx hb dX11_faultOf_170 (by decide) (fun c75 => ?_) (fun c75 => ?_)
                · exact absurd c75 (by decide)
                · refine lv_iload hx hb dX11_faultOf_173 (lv_at hl 2 rfl) ?_
                  refine lv_goto (tgt := 179) hx hb dX11_faultOf_175 (by decide) ?_
                  refine lv_istore_n (lv' := [(2, .int (v_sign y3.toNatClampNeg)), (6, .int (1 : Int32)), (5, .int (1 : Int32)), (4, .int (v_sign y3.toNatClampNeg)), (0, .ref a_this), (1, .int y1), (3, .int y3)]) hx hb dX11_faultOf_179 rfl hl (by decide) rfl (fun ls hl => ?_)
                  refine lv_iload hx hb dX11_faultOf_180 (lv_at hl 1 rfl) ?_
                  refine lv_istore_n (lv' := [(1, .int (1 : Int32)), (2, .int (v_sign y3.toNatClampNeg)), (6, .int (1 : Int32)), (5, .int (1 : Int32)), (4, .int (v_sign y3.toNatClampNeg)), (0, .ref a_this), (3, .int y3)]) hx hb dX11_faultOf_182 rfl hl (by decide) rfl (fun ls hl => ?_)
                  refine lv_iinc (v := (y3 + (1 : Int32))) (lv' := [(3, .int (y3 + (1 : Int32))), (1, .int (1 : Int32)), (2, .int (v_sign y3.toNatClampNeg)), (6, .int (1 : Int32)), (5, .int (1 : Int32)), (4, .int (v_sign y3.toNatClampNeg)), (0, .ref a_this)]) hx hb dX11_faultOf_183 hl (k := 6) rfl rfl (by decide) rfl (fun ls hl => ?_)
                  refine lv_goto (tgt := 6) hx hb dX11_faultOf_186 (by decide) ?_
                  exact ih (1 : Int32) (v_sign y3.toNatClampNeg) (y3 + (1 : Int32)) _ _ _ hf hP hD hS (lv_sub hl [6, 1, 2, 0] rfl)
              · exact absurd c74 (by decide)
set_option maxHeartbeats 4000000 in
set_option maxRecDepth 100000 in
theorem c_X11_faultOf (l : Launch) (D : va_G) (cyI cyJ cyZ : ClassId) (a_this a_sets a_papers a_worths a_sign a_hallSign a_chosen a_upper a_lower : Nat) (v_heaps : Int32) (v_seats : Int32) (v_signs : Int32) (v_hallMany : Int32) (v_chosenSet : Int32) (v_paidSeats : Int32) (v_rhoUp : Int64) (v_rhoBy : Int64) (v_breachGroup : Int32) (v_sign : Nat → Int32) (q : Int32) (hf : f_X11_faultOf v_signs v_sign = some q) : kMi l yX11_faultOf wsX11_faultOf rm_X11_faultOf D (kTy cyI cyJ cyZ) [.ref a_this] (wd_X11_faultOf cyI cyJ cyZ a_this a_sets a_papers a_worths a_sign a_hallSign a_chosen a_upper a_lower v_heaps v_seats v_signs v_hallMany v_chosenSet v_paidSeats v_rhoUp v_rhoBy v_breachGroup v_sign) (wd_X11_faultOf cyI cyJ cyZ a_this a_sets a_papers a_worths a_sign a_hallSign a_chosen a_upper a_lower v_heaps v_seats v_signs v_hallMany v_chosenSet v_paidSeats v_rhoUp v_rhoBy v_breachGroup v_sign) q := by
  refine kMi_of (cc := cX11_faultOf) (nL := 7) (own := RX11) (by decide) rfl rfl (Nat.le_of_ble_eq_true rfl) ?_
  intro p e s m below meth c A Q ls C hret hP hD hS hl
  have hl : lv_has ls 7 [(0, .ref a_this)] := hl
  unfold f_X11_faultOf at hf
  obtain ⟨hx, hb, hml, hown, hts, hK, hA⟩ := id C
  have iX11 : ∀ w ∈ u_ws RX11 TX11 17, w ∈ wsX11_faultOf := by decide +kernel
  have fl50 := hts (.fieldLink RX11 50 "FairSeatsModel" "signs" "I") (by decide +kernel)
  refine lv_iconst (v := (0 : Int32)) hx hb dX11_faultOf_0 (by decide) ?_
  refine lv_istore_n (lv' := [(1, .int (0 : Int32)), (0, .ref a_this)]) hx hb dX11_faultOf_1 rfl hl (by decide) rfl (fun ls hl => ?_)
  refine lv_iconst (v := (0 : Int32)) hx hb dX11_faultOf_2 (by decide) ?_
  refine lv_istore_n (lv' := [(2, .int (0 : Int32)), (1, .int (0 : Int32)), (0, .ref a_this)]) hx hb dX11_faultOf_3 rfl hl (by decide) rfl (fun ls hl => ?_)
  refine lv_iconst (v := (0 : Int32)) hx hb dX11_faultOf_4 (by decide) ?_
  refine lv_istore_n (lv' := [(3, .int (0 : Int32)), (2, .int (0 : Int32)), (1, .int (0 : Int32)), (0, .ref a_this)]) hx hb dX11_faultOf_5 rfl hl (by decide) rfl (fun ls hl => ?_)
  refine wl_X11_faultOf_6 C hret (fun q76 H locs ls hf hP hD hS hl => ?_) FU (0 : Int32) (0 : Int32) (0 : Int32) _ _ _ hf hP hD hS (lv_sub hl [3, 2, 1, 0] rfl)
  refine lv_iload_n hx hb dX11_faultOf_189 rfl (lv_at hl 1 rfl) ?_
  refine lv_iconst (v := (3 : Int32)) hx hb dX11_faultOf_190 (by decide) ?_
  refine lv_icmp_ne (tgt := 199) hx hb dX11_faultOf_191 (by decide) (fun c77 => ?_) (fun c77 => ?_)
  · have hf := ob_neg c77 hf
    refine lv_aload_n hx hb dX11_faultOf_199 rfl (lv_at hl 0 rfl) ?_
    refine va_get (D := D) (ci := 10) (v := .int v_signs) (C := RX11) (T := TX11) (N := 17) hx hb hts iX11 hown hK hP 0 rfl rfl 5 (by decide) fl50 (fun _ h9 => h9) rfl dX11_faultOf_200 ?_
    obtain rfl := Option.some.inj hf
    exact hret _ _ _ _ dX11_faultOf_203 hP hD hS
  · have hf := ob_pos c77 hf
    refine lv_bipush (v := (-6 : Int32)) hx hb dX11_faultOf_194 (by decide) ?_
    refine lv_goto (tgt := 203) hx hb dX11_faultOf_196 (by decide) ?_
    obtain rfl := Option.some.inj hf
    exact hret _ _ _ _ dX11_faultOf_203 hP hD hS
abbrev rm_X11_fault : Room := { frames := 2, cells := 0, slots := 0, locals := 48 }
abbrev wd_X11_fault (cyI cyJ cyZ : ClassId) (a_this a_sets a_papers a_worths a_sign a_hallSign a_chosen a_upper a_lower : Nat) (v_heaps : Int32) (v_seats : Int32) (v_signs : Int32) (v_hallMany : Int32) (v_chosenSet : Int32) (v_paidSeats : Int32) (v_rhoUp : Int64) (v_rhoBy : Int64) (v_breachGroup : Int32) (v_sign : Nat → Int32) : va_W := [(a_this, .inr (10, [.int v_heaps, .ref a_sets, .ref a_papers, .int v_seats, .ref a_worths, .int v_signs, .ref a_sign, .int v_hallMany, .ref a_hallSign, .ref a_chosen, .int v_chosenSet, .int v_paidSeats, .ref a_upper, .ref a_lower, .long v_rhoUp, .long v_rhoBy, .int v_breachGroup])), (a_sign, .inl (cyI, 40, .inl v_sign))]
def f_X11_fault (v_signs : Int32) (v_sign : Nat → Int32) : Option (Int32) := (f_X11_faultOf v_signs v_sign).bind (fun q1 => some q1)
set_option maxHeartbeats 4000000 in
set_option maxRecDepth 100000 in
theorem c_X11_fault (l : Launch) (D : va_G) (cyI cyJ cyZ : ClassId) (a_this a_sets a_papers a_worths a_sign a_hallSign a_chosen a_upper a_lower : Nat) (v_heaps : Int32) (v_seats : Int32) (v_signs : Int32) (v_hallMany : Int32) (v_chosenSet : Int32) (v_paidSeats : Int32) (v_rhoUp : Int64) (v_rhoBy : Int64) (v_breachGroup : Int32) (v_sign : Nat → Int32) (q : Int32) (hf : f_X11_fault v_signs v_sign = some q) : kMi l yX11_fault wsX11_fault rm_X11_fault D (kTy cyI cyJ cyZ) [.ref a_this] (wd_X11_fault cyI cyJ cyZ a_this a_sets a_papers a_worths a_sign a_hallSign a_chosen a_upper a_lower v_heaps v_seats v_signs v_hallMany v_chosenSet v_paidSeats v_rhoUp v_rhoBy v_breachGroup v_sign) (wd_X11_fault cyI cyJ cyZ a_this a_sets a_papers a_worths a_sign a_hallSign a_chosen a_upper a_lower v_heaps v_seats v_signs v_hallMany v_chosenSet v_paidSeats v_rhoUp v_rhoBy v_breachGroup v_sign) q := by
  refine kMi_of (cc := cX11_fault) (nL := 1) (own := RX11) (by decide) rfl rfl (Nat.le_of_ble_eq_true rfl) ?_
  intro p e s m below meth c A Q ls C hret hP hD hS hl
  have hl : lv_has ls 1 [(0, .ref a_this)] := hl
  unfold f_X11_fault at hf
  obtain ⟨hx, hb, hml, hown, hts, hK, hA⟩ := id C
  have cw53 := cwV (R := rm_X11_fault) (rm := rm_X11_faultOf) 0 hts gX11_fault_X11_faultOf rfl rfl rfl (by decide +kernel) ⟨Nat.le_of_ble_eq_true rfl, Nat.le_of_ble_eq_true rfl⟩
  refine lv_aload_n hx hb dX11_fault_0 rfl (lv_at hl 0 rfl) ?_
  obtain ⟨q1, hq1, hf⟩ := ob_bind hf
  refine k_Vi (wo := (wd_X11_fault cyI cyJ cyZ a_this a_sets a_papers a_worths a_sign a_hallSign a_chosen a_upper a_lower v_heaps v_seats v_signs v_hallMany v_chosenSet v_paidSeats v_rhoUp v_rhoBy v_breachGroup v_sign)) (As := []) (rest := []) C (c_X11_faultOf l D cyI cyJ cyZ a_this a_sets a_papers a_worths a_sign a_hallSign a_chosen a_upper a_lower v_heaps v_seats v_signs v_hallMany v_chosenSet v_paidSeats v_rhoUp v_rhoBy v_breachGroup v_sign  q1 hq1) cw53 hP hD hS [0, 1] [] [0, 1] rfl rfl rfl (by decide) 0 (ci := 10) rfl rfl rfl rfl rfl hl.1 (Nat.le_of_ble_eq_true rfl) dX11_fault_1 ⟨Nat.zero_le _, Nat.zero_le _⟩ (fun H locs hP hD hS => ?_)
  obtain rfl := Option.some.inj hf
  exact hret _ _ _ _ dX11_fault_4 hP hD hS
