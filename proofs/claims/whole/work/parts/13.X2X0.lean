abbrev rm_X0_gather : Room := { frames := 3, cells := 0, slots := 0, locals := 64 }
abbrev wd_X0_gather (cyI cyJ cyZ : ClassId) (a_L a_L_sets a_L_digits a_L_fewer a_this a_row : Nat) (v_L_count : Int32) (v_count : Int32) (v_L_digits : Nat → Int32) (v_L_fewer : Nat → Int32) (v_L_sets : Nat → Int32) (v_row : Nat → Int32) : va_W := [(a_L, .inr (3, [.ref a_L_sets, .ref a_L_digits, .ref a_L_fewer, .int v_L_count])), (a_this, .inr (0, [.ref a_row, .int v_count])), (a_L_digits, .inl (cyI, 10, .inl v_L_digits)), (a_L_fewer, .inl (cyZ, 10, .inl v_L_fewer)), (a_L_sets, .inl (cyI, 10, .inl v_L_sets)), (a_row, .inl (cyI, 70, .inl v_row))]
def lp_X0_gather_7 (y2 : Int32) (v_L_count : Int32) (v_L_digits : Nat → Int32) (v_L_fewer : Nat → Int32) (v_L_sets : Nat → Int32) : Nat → Int32 → Int32 → (Nat → Int32) → Option (Int32 × (Nat → Int32))
  | 0, _, _, _ => none
  | n + 1, y3, v_count, v_row => (if (255 : Int32) < y3 then some (v_count, v_row) else (f_J6_bitCount_0f7a4 y3).bind (fun q2 => (if q2 = y2 then (f_X4_allow y3 v_L_count v_L_digits v_L_fewer v_L_sets).bind (fun q4 => (if q4 = 0 then lp_X0_gather_7 y2 v_L_count v_L_digits v_L_fewer v_L_sets n (y3 + (1 : Int32)) v_count v_row else (if (70 : Int32) ≤ v_count then lp_X0_gather_7 y2 v_L_count v_L_digits v_L_fewer v_L_sets n (y3 + (1 : Int32)) v_count v_row else (if ob_in v_count 70 = true then lp_X0_gather_7 y2 v_L_count v_L_digits v_L_fewer v_L_sets n (y3 + (1 : Int32)) (v_count + (1 : Int32)) (upd v_row v_count.toNatClampNeg y3) else none)))) else lp_X0_gather_7 y2 v_L_count v_L_digits v_L_fewer v_L_sets n (y3 + (1 : Int32)) v_count v_row)))
def f_X0_gather (x2 : Int32) (v_L_count : Int32) (v_count : Int32) (v_L_digits : Nat → Int32) (v_L_fewer : Nat → Int32) (v_L_sets : Nat → Int32) (v_row : Nat → Int32) : Option (Int32 × (Nat → Int32)) := (lp_X0_gather_7 x2 v_L_count v_L_digits v_L_fewer v_L_sets FU (1 : Int32) (0 : Int32) v_row).bind (fun q8 => some (q8.1, q8.2))
set_option maxHeartbeats 4000000 in
set_option maxRecDepth 100000 in
theorem wl_X0_gather_7 {p : Program} {l : Launch} {e : Env} {s : State} {m : MethodId} {args : Array Value} {below : List Frame} {meth : Method} {c : Code} {A : Nat → Prop} {Q : State → Prop} {D : va_G} {cyI cyJ cyZ : ClassId} {a_L a_L_sets a_L_digits a_L_fewer a_this a_row : Nat} {y2 : Int32} {v_L_count : Int32} {v_L_digits : Nat → Int32} {v_L_fewer : Nat → Int32} {v_L_sets : Nat → Int32} (C : kC p s m args c cX0_gather 4 RX0 wsX0_gather D (kTy cyI cyJ cyZ) A) :
    ∀ (n : Nat) (y3 : Int32) (v_count : Int32) (v_row : Nat → Int32) (q : Int32 × (Nat → Int32)) (H : Heap) (locs : List Loc) (ls : Array Slot), lp_X0_gather_7 y2 v_L_count v_L_digits v_L_fewer v_L_sets n y3 v_count v_row = some q → (∀ (H : Heap) (locs : List Loc) (ls : Array Slot), va_P D vwCl (wd_X0_gather cyI cyJ cyZ a_L a_L_sets a_L_digits a_L_fewer a_this a_row v_L_count q.1 v_L_digits v_L_fewer v_L_sets q.2) H → va_D A (wd_X0_gather cyI cyJ cyZ a_L a_L_sets a_L_digits a_L_fewer a_this a_row v_L_count q.1 v_L_digits v_L_fewer v_L_sets q.2) → va_S A s.heap H locs → lv_has ls 4 [] → W p l e rm_X0_gather s m args below meth c H locs 0 0 Q (F0 m 65 ls [])) → va_P D vwCl (wd_X0_gather cyI cyJ cyZ a_L a_L_sets a_L_digits a_L_fewer a_this a_row v_L_count v_count v_L_digits v_L_fewer v_L_sets v_row) H → va_D A (wd_X0_gather cyI cyJ cyZ a_L a_L_sets a_L_digits a_L_fewer a_this a_row v_L_count v_count v_L_digits v_L_fewer v_L_sets v_row) → va_S A s.heap H locs → lv_has ls 4 [(0, .ref a_this), (1, .ref a_L), (2, .int y2), (3, .int y3)] → W p l e rm_X0_gather s m args below meth c H locs 0 0 Q (F0 m 7 ls []) := by
  obtain ⟨hx, hb, hml, hown, hts, hK, hA⟩ := id C
  have iX0 : ∀ w ∈ u_ws RX0 TX0 2, w ∈ wsX0_gather := by decide +kernel
  have fl9 := hts (.fieldLink RX0 9 "FairSeats$Committees" "row" "[I") (by decide +kernel)
  have fl15 := hts (.fieldLink RX0 15 "FairSeats$Committees" "count" "I") (by decide +kernel)
  have cw19 := va_cwS (R := rm_X0_gather) (rm := rm_J6_bitCount_0f7a4) 1 hts gX0_gather_J6_bitCount_0f7a4 rfl rfl rfl (by decide +kernel) ⟨Nat.le_of_ble_eq_true rfl, Nat.le_of_ble_eq_true rfl⟩
  have cw25 := cwV (R := rm_X0_gather) (rm := rm_X4_allow) 1 hts gX0_gather_X4_allow rfl rfl rfl (by decide +kernel) ⟨Nat.le_of_ble_eq_true rfl, Nat.le_of_ble_eq_true rfl⟩
  intro n
  induction n with
  | zero =>
    intro y3 v_count v_row q H locs ls hf K hP hD hS hl
    rw [lp_X0_gather_7] at hf
    cases hf
  | succ n ih =>
    intro y3 v_count v_row q H locs ls hf K hP hD hS hl
    rw [lp_X0_gather_7] at hf
    refine lv_iload_n hx hb dX0_gather_7 rfl (lv_at hl 3 rfl) ?_
    refine lv_sipush (v := (255 : Int32)) hx hb dX0_gather_8 (by decide) ?_
    refine lv_icmp_gt (tgt := 65) hx hb dX0_gather_11 (by decide) (fun c1 => ?_) (fun c1 => ?_)
    · have hf := ob_pos c1 hf
      obtain rfl := Option.some.inj hf
      exact K _ _ _ hP hD hS (lv_sub hl [] rfl)
    · have hf := ob_neg c1 hf
      refine lv_iload_n hx hb dX0_gather_14 rfl (lv_at hl 3 rfl) ?_
      obtain ⟨q2, hq2, hf⟩ := ob_bind hf
      refine k_Si (wo := (wd_X0_gather cyI cyJ cyZ a_L a_L_sets a_L_digits a_L_fewer a_this a_row v_L_count v_count v_L_digits v_L_fewer v_L_sets v_row)) (As := [.int y3]) (rest := []) C (c_J6_bitCount_0f7a4 l D cyI cyJ cyZ   y3 q2 hq2) cw19 hP hD hS [] [0, 1, 2, 3, 4, 5] [0, 1, 2, 3, 4, 5] rfl rfl rfl (by decide) rfl rfl hl.1 (Nat.le_of_ble_eq_true rfl) dX0_gather_15 ⟨Nat.zero_le _, Nat.zero_le _⟩ (fun H locs hP hD hS => ?_)
      refine lv_iload_n hx hb dX0_gather_18 rfl (lv_at hl 2 rfl) ?_
      refine lv_icmp_ne (tgt := 59) hx hb dX0_gather_19 (by decide) (fun c3 => ?_) (fun c3 => ?_)
      · have hf := ob_neg c3 hf
        refine lv_iinc (v := (y3 + (1 : Int32))) (lv' := [(3, .int (y3 + (1 : Int32))), (0, .ref a_this), (1, .ref a_L), (2, .int y2)]) hx hb dX0_gather_59 hl (k := 3) rfl rfl (by decide) rfl (fun ls hl => ?_)
        refine lv_goto (tgt := 7) hx hb dX0_gather_62 (by decide) ?_
        exact ih (y3 + (1 : Int32)) v_count v_row _ _ _ _ hf K hP hD hS (lv_sub hl [1, 2, 3, 0] rfl)
      · have hf := ob_pos c3 hf
        refine lv_aload_n hx hb dX0_gather_22 rfl (lv_at hl 1 rfl) ?_
        refine lv_iload_n hx hb dX0_gather_23 rfl (lv_at hl 3 rfl) ?_
        obtain ⟨q4, hq4, hf⟩ := ob_bind hf
        refine k_Vz (wo := (wd_X0_gather cyI cyJ cyZ a_L a_L_sets a_L_digits a_L_fewer a_this a_row v_L_count v_count v_L_digits v_L_fewer v_L_sets v_row)) (As := [.int y3]) (rest := []) C (c_X4_allow l D cyI cyJ cyZ a_L a_L_sets a_L_digits a_L_fewer v_L_count v_L_digits v_L_fewer v_L_sets y3 q4 hq4) cw25 hP hD hS [0, 2, 3, 4] [1, 5] [2, 0, 3, 4, 5, 1] rfl rfl rfl (by decide) 0 (ci := 3) rfl rfl rfl rfl rfl hl.1 (Nat.le_of_ble_eq_true rfl) dX0_gather_24 ⟨Nat.zero_le _, Nat.zero_le _⟩ (fun H locs zq4 hP hD hS => ?_)
        refine lv_if_eq (tgt := 59) hx hb dX0_gather_27 (by decide) (fun c5 => ?_) (fun c5 => ?_)
        · have hf := ob_pos c5 hf
          refine lv_iinc (v := (y3 + (1 : Int32))) (lv' := [(3, .int (y3 + (1 : Int32))), (0, .ref a_this), (1, .ref a_L), (2, .int y2)]) hx hb dX0_gather_59 hl (k := 3) rfl rfl (by decide) rfl (fun ls hl => ?_)
          refine lv_goto (tgt := 7) hx hb dX0_gather_62 (by decide) ?_
          exact ih (y3 + (1 : Int32)) v_count v_row _ _ _ _ hf K hP hD hS (lv_sub hl [1, 2, 3, 0] rfl)
        · have hf := ob_neg c5 hf
          refine lv_aload_n hx hb dX0_gather_30 rfl (lv_at hl 0 rfl) ?_
          refine va_get (D := D) (ci := 0) (v := .int v_count) (C := RX0) (T := TX0) (N := 2) hx hb hts iX0 hown hK hP 1 rfl rfl 1 (by decide) fl15 (fun _ h9 => h9) rfl dX0_gather_31 ?_
          refine lv_bipush (v := (70 : Int32)) hx hb dX0_gather_34 (by decide) ?_
          refine lv_icmp_ge (tgt := 59) hx hb dX0_gather_36 (by decide) (fun c6 => ?_) (fun c6 => ?_)
          · have hf := ob_pos c6 hf
            refine lv_iinc (v := (y3 + (1 : Int32))) (lv' := [(3, .int (y3 + (1 : Int32))), (0, .ref a_this), (1, .ref a_L), (2, .int y2)]) hx hb dX0_gather_59 hl (k := 3) rfl rfl (by decide) rfl (fun ls hl => ?_)
            refine lv_goto (tgt := 7) hx hb dX0_gather_62 (by decide) ?_
            exact ih (y3 + (1 : Int32)) v_count v_row _ _ _ _ hf K hP hD hS (lv_sub hl [1, 2, 3, 0] rfl)
          · have hf := ob_neg c6 hf
            refine lv_aload_n hx hb dX0_gather_39 rfl (lv_at hl 0 rfl) ?_
            refine va_get (D := D) (ci := 0) (v := .ref a_row) (C := RX0) (T := TX0) (N := 2) hx hb hts iX0 hown hK hP 1 rfl rfl 0 (by decide) fl9 (fun _ h9 => h9) rfl dX0_gather_40 ?_
            refine lv_aload_n hx hb dX0_gather_43 rfl (lv_at hl 0 rfl) ?_
            refine va_get (D := D) (ci := 0) (v := .int v_count) (C := RX0) (T := TX0) (N := 2) hx hb hts iX0 hown hK hP 1 rfl rfl 1 (by decide) fl15 (fun _ h9 => h9) rfl dX0_gather_44 ?_
            refine lv_iload_n hx hb dX0_gather_47 rfl (lv_at hl 3 rfl) ?_
            obtain ⟨h7, hf⟩ := og_in hf
            refine va_iast hx hb hK hP hD hS 5 0 rfl rfl h7 dX0_gather_48 (fun H locs hP hD hS => ?_)
            have hP : va_P D vwCl (wd_X0_gather cyI cyJ cyZ a_L a_L_sets a_L_digits a_L_fewer a_this a_row v_L_count v_count v_L_digits v_L_fewer v_L_sets (upd v_row v_count.toNatClampNeg y3)) H := hP
            have hD : va_D A (wd_X0_gather cyI cyJ cyZ a_L a_L_sets a_L_digits a_L_fewer a_this a_row v_L_count v_count v_L_digits v_L_fewer v_L_sets (upd v_row v_count.toNatClampNeg y3)) := hD
            refine lv_aload_n hx hb dX0_gather_49 rfl (lv_at hl 0 rfl) ?_
            refine lv_dup hx hb dX0_gather_50 rfl ?_
            refine va_get (D := D) (ci := 0) (v := .int v_count) (C := RX0) (T := TX0) (N := 2) hx hb hts iX0 hown hK hP 1 rfl rfl 1 (by decide) fl15 (fun _ h9 => h9) rfl dX0_gather_51 ?_
            refine lv_iconst (v := (1 : Int32)) hx hb dX0_gather_54 (by decide) ?_
            refine lv_iadd hx hb dX0_gather_55 ?_
            refine va_put (D := D) (ci := 0) (v := .int (v_count + (1 : Int32))) (ty := .int) (C := RX0) (T := TX0) (N := 2) hx hb hts iX0 tyX0 tyX0_ok nmX0 hown hK hP hD hS 1 rfl rfl 1 (by decide) fl15 (fun _ h9 => h9) rfl (by decide +kernel) rfl rfl (Nat.le_of_ble_eq_true rfl) dX0_gather_56 (fun H locs hP hD hS => ?_)
            have hP : va_P D vwCl (wd_X0_gather cyI cyJ cyZ a_L a_L_sets a_L_digits a_L_fewer a_this a_row v_L_count (v_count + (1 : Int32)) v_L_digits v_L_fewer v_L_sets (upd v_row v_count.toNatClampNeg y3)) H := hP
            have hD : va_D A (wd_X0_gather cyI cyJ cyZ a_L a_L_sets a_L_digits a_L_fewer a_this a_row v_L_count (v_count + (1 : Int32)) v_L_digits v_L_fewer v_L_sets (upd v_row v_count.toNatClampNeg y3)) := hD
            refine lv_iinc (v := (y3 + (1 : Int32))) (lv' := [(3, .int (y3 + (1 : Int32))), (0, .ref a_this), (1, .ref a_L), (2, .int y2)]) hx hb dX0_gather_59 hl (k := 3) rfl rfl (by decide) rfl (fun ls hl => ?_)
            refine lv_goto (tgt := 7) hx hb dX0_gather_62 (by decide) ?_
            exact ih (y3 + (1 : Int32)) (v_count + (1 : Int32)) (upd v_row v_count.toNatClampNeg y3) _ _ _ _ hf K hP hD hS (lv_sub hl [1, 2, 3, 0] rfl)
set_option maxHeartbeats 4000000 in
set_option maxRecDepth 100000 in
theorem c_X0_gather (l : Launch) (D : va_G) (cyI cyJ cyZ : ClassId) (a_L a_L_sets a_L_digits a_L_fewer a_this a_row : Nat) (v_L_count : Int32) (v_count : Int32) (v_L_digits : Nat → Int32) (v_L_fewer : Nat → Int32) (v_L_sets : Nat → Int32) (v_row : Nat → Int32) (x2 : Int32) (q : Int32 × (Nat → Int32)) (hf : f_X0_gather x2 v_L_count v_count v_L_digits v_L_fewer v_L_sets v_row = some q) : kMv l yX0_gather wsX0_gather rm_X0_gather D (kTy cyI cyJ cyZ) [.ref a_this, .ref a_L, .int x2] (wd_X0_gather cyI cyJ cyZ a_L a_L_sets a_L_digits a_L_fewer a_this a_row v_L_count v_count v_L_digits v_L_fewer v_L_sets v_row) (wd_X0_gather cyI cyJ cyZ a_L a_L_sets a_L_digits a_L_fewer a_this a_row v_L_count q.1 v_L_digits v_L_fewer v_L_sets q.2) := by
  refine kMv_of (cc := cX0_gather) (nL := 4) (own := RX0) (by decide) rfl rfl (Nat.le_of_ble_eq_true rfl) ?_
  intro p e s m below meth c A Q ls C hret hP hD hS hl
  have hl : lv_has ls 4 [(0, .ref a_this), (1, .ref a_L), (2, .int x2)] := hl
  unfold f_X0_gather at hf
  obtain ⟨hx, hb, hml, hown, hts, hK, hA⟩ := id C
  have iX0 : ∀ w ∈ u_ws RX0 TX0 2, w ∈ wsX0_gather := by decide +kernel
  have fl15 := hts (.fieldLink RX0 15 "FairSeats$Committees" "count" "I") (by decide +kernel)
  refine lv_aload_n hx hb dX0_gather_0 rfl (lv_at hl 0 rfl) ?_
  refine lv_iconst (v := (0 : Int32)) hx hb dX0_gather_1 (by decide) ?_
  refine va_put (D := D) (ci := 0) (v := .int (0 : Int32)) (ty := .int) (C := RX0) (T := TX0) (N := 2) hx hb hts iX0 tyX0 tyX0_ok nmX0 hown hK hP hD hS 1 rfl rfl 1 (by decide) fl15 (fun _ h9 => h9) rfl (by decide +kernel) rfl rfl (Nat.le_of_ble_eq_true rfl) dX0_gather_2 (fun H locs hP hD hS => ?_)
  have hP : va_P D vwCl (wd_X0_gather cyI cyJ cyZ a_L a_L_sets a_L_digits a_L_fewer a_this a_row v_L_count (0 : Int32) v_L_digits v_L_fewer v_L_sets v_row) H := hP
  have hD : va_D A (wd_X0_gather cyI cyJ cyZ a_L a_L_sets a_L_digits a_L_fewer a_this a_row v_L_count (0 : Int32) v_L_digits v_L_fewer v_L_sets v_row) := hD
  refine lv_iconst (v := (1 : Int32)) hx hb dX0_gather_5 (by decide) ?_
  refine lv_istore_n (lv' := [(3, .int (1 : Int32)), (0, .ref a_this), (1, .ref a_L), (2, .int x2)]) hx hb dX0_gather_6 rfl hl (by decide) rfl (fun ls hl => ?_)
  obtain ⟨q8, hq8, hf⟩ := ob_bind hf
  refine wl_X0_gather_7 C FU (1 : Int32) (0 : Int32) v_row _ _ _ _ hq8 (fun H locs ls hP hD hS hl => ?_) hP hD hS (lv_sub hl [1, 2, 3, 0] rfl)
  obtain rfl := Option.some.inj hf
  exact hret _ _ _ _ dX0_gather_65 hP hD hS
abbrev rm_X0_ofMostWorth : Room := { frames := 2, cells := 0, slots := 0, locals := 43 }
abbrev wd_X0_ofMostWorth (cyI cyJ cyZ : ClassId) (a_H a_H_sets a_H_papers a_H_worths a_H_worths_each a_H_worths_together a_this a_row : Nat) (v_H_count : Int32) (v_count : Int32) (v_H_papers : Nat → Int32) (v_H_sets : Nat → Int32) (v_H_worths_together : Nat → Int32) (v_row : Nat → Int32) : va_W := [(a_H, .inr (2, [.ref a_H_sets, .ref a_H_papers, .ref a_H_worths, .int v_H_count])), (a_H_worths, .inr (8, [.ref a_H_worths_each, .ref a_H_worths_together])), (a_this, .inr (0, [.ref a_row, .int v_count])), (a_H_papers, .inl (cyI, 7, .inl v_H_papers)), (a_H_sets, .inl (cyI, 7, .inl v_H_sets)), (a_H_worths_together, .inl (cyI, 9, .inl v_H_worths_together)), (a_row, .inl (cyI, 70, .inl v_row))]
def lp_X0_ofMostWorth_7 (v_H_count : Int32) (v_count : Int32) (v_H_papers : Nat → Int32) (v_H_sets : Nat → Int32) (v_H_worths_together : Nat → Int32) (v_row : Nat → Int32) : Nat → Int32 → Int32 → Int32 → Option (Int32)
  | 0, _, _, _ => none
  | n + 1, y2, y3, y4 => (if v_count ≤ y4 then some y2 else (if ob_in y4 70 = true then (f_X3_worthOf (v_row y4.toNatClampNeg) v_H_count v_H_papers v_H_sets v_H_worths_together).bind (fun q3 => (if q3 ≤ y3 then lp_X0_ofMostWorth_7 v_H_count v_count v_H_papers v_H_sets v_H_worths_together v_row n y2 y3 (y4 + (1 : Int32)) else (if ob_in y4 70 = true then lp_X0_ofMostWorth_7 v_H_count v_count v_H_papers v_H_sets v_H_worths_together v_row n (v_row y4.toNatClampNeg) q3 (y4 + (1 : Int32)) else none))) else none))
def f_X0_ofMostWorth (v_H_count : Int32) (v_count : Int32) (v_H_papers : Nat → Int32) (v_H_sets : Nat → Int32) (v_H_worths_together : Nat → Int32) (v_row : Nat → Int32) : Option (Int32) := (lp_X0_ofMostWorth_7 v_H_count v_count v_H_papers v_H_sets v_H_worths_together v_row FU (0 : Int32) (-1 : Int32) (0 : Int32)).bind (fun q6 => some q6)
set_option maxHeartbeats 4000000 in
set_option maxRecDepth 100000 in
theorem wl_X0_ofMostWorth_7 {p : Program} {l : Launch} {e : Env} {s : State} {m : MethodId} {args : Array Value} {below : List Frame} {meth : Method} {c : Code} {A : Nat → Prop} {Q : State → Prop} {D : va_G} {cyI cyJ cyZ : ClassId} {a_H a_H_sets a_H_papers a_H_worths a_H_worths_each a_H_worths_together a_this a_row : Nat} {v_H_count : Int32} {v_count : Int32} {v_H_papers : Nat → Int32} {v_H_sets : Nat → Int32} {v_H_worths_together : Nat → Int32} {v_row : Nat → Int32} (C : kC p s m args c cX0_ofMostWorth 6 RX0 wsX0_ofMostWorth D (kTy cyI cyJ cyZ) A) :
    ∀ (n : Nat) (y2 : Int32) (y3 : Int32) (y4 : Int32) (q : Int32) (H : Heap) (locs : List Loc) (ls : Array Slot), lp_X0_ofMostWorth_7 v_H_count v_count v_H_papers v_H_sets v_H_worths_together v_row n y2 y3 y4 = some q → (∀ (H : Heap) (locs : List Loc) (ls : Array Slot), va_P D vwCl (wd_X0_ofMostWorth cyI cyJ cyZ a_H a_H_sets a_H_papers a_H_worths a_H_worths_each a_H_worths_together a_this a_row v_H_count v_count v_H_papers v_H_sets v_H_worths_together v_row) H → va_D A (wd_X0_ofMostWorth cyI cyJ cyZ a_H a_H_sets a_H_papers a_H_worths a_H_worths_each a_H_worths_together a_this a_row v_H_count v_count v_H_papers v_H_sets v_H_worths_together v_row) → va_S A s.heap H locs → lv_has ls 6 [(2, .int q)] → W p l e rm_X0_ofMostWorth s m args below meth c H locs 0 0 Q (F0 m 52 ls [])) → va_P D vwCl (wd_X0_ofMostWorth cyI cyJ cyZ a_H a_H_sets a_H_papers a_H_worths a_H_worths_each a_H_worths_together a_this a_row v_H_count v_count v_H_papers v_H_sets v_H_worths_together v_row) H → va_D A (wd_X0_ofMostWorth cyI cyJ cyZ a_H a_H_sets a_H_papers a_H_worths a_H_worths_each a_H_worths_together a_this a_row v_H_count v_count v_H_papers v_H_sets v_H_worths_together v_row) → va_S A s.heap H locs → lv_has ls 6 [(0, .ref a_this), (1, .ref a_H), (2, .int y2), (3, .int y3), (4, .int y4)] → W p l e rm_X0_ofMostWorth s m args below meth c H locs 0 0 Q (F0 m 7 ls []) := by
  obtain ⟨hx, hb, hml, hown, hts, hK, hA⟩ := id C
  have iX0 : ∀ w ∈ u_ws RX0 TX0 2, w ∈ wsX0_ofMostWorth := by decide +kernel
  have fl9 := hts (.fieldLink RX0 9 "FairSeats$Committees" "row" "[I") (by decide +kernel)
  have fl15 := hts (.fieldLink RX0 15 "FairSeats$Committees" "count" "I") (by decide +kernel)
  have cw40 := cwV (R := rm_X0_ofMostWorth) (rm := rm_X3_worthOf) 1 hts gX0_ofMostWorth_X3_worthOf rfl rfl rfl (by decide +kernel) ⟨Nat.le_of_ble_eq_true rfl, Nat.le_of_ble_eq_true rfl⟩
  intro n
  induction n with
  | zero =>
    intro y2 y3 y4 q H locs ls hf K hP hD hS hl
    rw [lp_X0_ofMostWorth_7] at hf
    cases hf
  | succ n ih =>
    intro y2 y3 y4 q H locs ls hf K hP hD hS hl
    rw [lp_X0_ofMostWorth_7] at hf
    refine lv_iload hx hb dX0_ofMostWorth_7 (lv_at hl 4 rfl) ?_
    refine lv_aload_n hx hb dX0_ofMostWorth_9 rfl (lv_at hl 0 rfl) ?_
    refine va_get (D := D) (ci := 0) (v := .int v_count) (C := RX0) (T := TX0) (N := 2) hx hb hts iX0 hown hK hP 2 rfl rfl 1 (by decide) fl15 (fun _ h9 => h9) rfl dX0_ofMostWorth_10 ?_
    refine lv_icmp_ge (tgt := 52) hx hb dX0_ofMostWorth_13 (by decide) (fun c1 => ?_) (fun c1 => ?_)
    · have hf := ob_pos c1 hf
      obtain rfl := Option.some.inj hf
      exact K _ _ _ hP hD hS (lv_sub hl [2] rfl)
    · have hf := ob_neg c1 hf
      refine lv_aload_n hx hb dX0_ofMostWorth_16 rfl (lv_at hl 1 rfl) ?_
      refine lv_aload_n hx hb dX0_ofMostWorth_17 rfl (lv_at hl 0 rfl) ?_
      refine va_get (D := D) (ci := 0) (v := .ref a_row) (C := RX0) (T := TX0) (N := 2) hx hb hts iX0 hown hK hP 2 rfl rfl 0 (by decide) fl9 (fun _ h9 => h9) rfl dX0_ofMostWorth_18 ?_
      refine lv_iload hx hb dX0_ofMostWorth_21 (lv_at hl 4 rfl) ?_
      obtain ⟨h2, hf⟩ := og_in hf
      refine va_iald hx hb hK hP 6 0 rfl rfl h2 dX0_ofMostWorth_23 ?_
      obtain ⟨q3, hq3, hf⟩ := ob_bind hf
      refine k_Vi (wo := (wd_X0_ofMostWorth cyI cyJ cyZ a_H a_H_sets a_H_papers a_H_worths a_H_worths_each a_H_worths_together a_this a_row v_H_count v_count v_H_papers v_H_sets v_H_worths_together v_row)) (As := [.int (v_row y4.toNatClampNeg)]) (rest := []) C (c_X3_worthOf l D cyI cyJ cyZ a_H a_H_sets a_H_papers a_H_worths a_H_worths_each a_H_worths_together v_H_count v_H_papers v_H_sets v_H_worths_together (v_row y4.toNatClampNeg) q3 hq3) cw40 hP hD hS [0, 1, 3, 4, 5] [2, 6] [2, 3, 0, 4, 5, 6, 1] rfl rfl rfl (by decide) 0 (ci := 2) rfl rfl rfl rfl rfl hl.1 (Nat.le_of_ble_eq_true rfl) dX0_ofMostWorth_24 ⟨Nat.zero_le _, Nat.zero_le _⟩ (fun H locs hP hD hS => ?_)
      refine lv_istore (lv' := [(5, .int q3), (0, .ref a_this), (1, .ref a_H), (2, .int y2), (3, .int y3), (4, .int y4)]) hx hb dX0_ofMostWorth_27 hl (by decide) rfl (fun ls hl => ?_)
      refine lv_iload hx hb dX0_ofMostWorth_29 (lv_at hl 0 rfl) ?_
      refine lv_iload_n hx hb dX0_ofMostWorth_31 rfl (lv_at hl 4 rfl) ?_
      refine lv_icmp_le (tgt := 46) hx hb dX0_ofMostWorth_32 (by decide) (fun c4 => ?_) (fun c4 => ?_)
      · have hf := ob_pos c4 hf
        refine lv_iinc (v := (y4 + (1 : Int32))) (lv' := [(4, .int (y4 + (1 : Int32))), (5, .int q3), (0, .ref a_this), (1, .ref a_H), (2, .int y2), (3, .int y3)]) hx hb dX0_ofMostWorth_46 hl (k := 5) rfl rfl (by decide) rfl (fun ls hl => ?_)
        refine lv_goto (tgt := 7) hx hb dX0_ofMostWorth_49 (by decide) ?_
        exact ih y2 y3 (y4 + (1 : Int32)) _ _ _ _ hf K hP hD hS (lv_sub hl [2, 3, 4, 5, 0] rfl)
      · have hf := ob_neg c4 hf
        refine lv_iload hx hb dX0_ofMostWorth_35 (lv_at hl 0 rfl) ?_
        refine lv_istore_n (lv' := [(3, .int q3), (5, .int q3), (0, .ref a_this), (1, .ref a_H), (2, .int y2), (4, .int y4)]) hx hb dX0_ofMostWorth_37 rfl hl (by decide) rfl (fun ls hl => ?_)
        refine lv_aload_n hx hb dX0_ofMostWorth_38 rfl (lv_at hl 2 rfl) ?_
        refine va_get (D := D) (ci := 0) (v := .ref a_row) (C := RX0) (T := TX0) (N := 2) hx hb hts iX0 hown hK hP 2 rfl rfl 0 (by decide) fl9 (fun _ h9 => h9) rfl dX0_ofMostWorth_39 ?_
        refine lv_iload hx hb dX0_ofMostWorth_42 (lv_at hl 5 rfl) ?_
        obtain ⟨h5, hf⟩ := og_in hf
        refine va_iald hx hb hK hP 6 0 rfl rfl h5 dX0_ofMostWorth_44 ?_
        refine lv_istore_n (lv' := [(2, .int (v_row y4.toNatClampNeg)), (3, .int q3), (5, .int q3), (0, .ref a_this), (1, .ref a_H), (4, .int y4)]) hx hb dX0_ofMostWorth_45 rfl hl (by decide) rfl (fun ls hl => ?_)
        refine lv_iinc (v := (y4 + (1 : Int32))) (lv' := [(4, .int (y4 + (1 : Int32))), (2, .int (v_row y4.toNatClampNeg)), (3, .int q3), (5, .int q3), (0, .ref a_this), (1, .ref a_H)]) hx hb dX0_ofMostWorth_46 hl (k := 5) rfl rfl (by decide) rfl (fun ls hl => ?_)
        refine lv_goto (tgt := 7) hx hb dX0_ofMostWorth_49 (by decide) ?_
        exact ih (v_row y4.toNatClampNeg) q3 (y4 + (1 : Int32)) _ _ _ _ hf K hP hD hS (lv_sub hl [4, 5, 1, 2, 0] rfl)
set_option maxHeartbeats 4000000 in
set_option maxRecDepth 100000 in
theorem c_X0_ofMostWorth (l : Launch) (D : va_G) (cyI cyJ cyZ : ClassId) (a_H a_H_sets a_H_papers a_H_worths a_H_worths_each a_H_worths_together a_this a_row : Nat) (v_H_count : Int32) (v_count : Int32) (v_H_papers : Nat → Int32) (v_H_sets : Nat → Int32) (v_H_worths_together : Nat → Int32) (v_row : Nat → Int32) (q : Int32) (hf : f_X0_ofMostWorth v_H_count v_count v_H_papers v_H_sets v_H_worths_together v_row = some q) : kMi l yX0_ofMostWorth wsX0_ofMostWorth rm_X0_ofMostWorth D (kTy cyI cyJ cyZ) [.ref a_this, .ref a_H] (wd_X0_ofMostWorth cyI cyJ cyZ a_H a_H_sets a_H_papers a_H_worths a_H_worths_each a_H_worths_together a_this a_row v_H_count v_count v_H_papers v_H_sets v_H_worths_together v_row) (wd_X0_ofMostWorth cyI cyJ cyZ a_H a_H_sets a_H_papers a_H_worths a_H_worths_each a_H_worths_together a_this a_row v_H_count v_count v_H_papers v_H_sets v_H_worths_together v_row) q := by
  refine kMi_of (cc := cX0_ofMostWorth) (nL := 6) (own := RX0) (by decide) rfl rfl (Nat.le_of_ble_eq_true rfl) ?_
  intro p e s m below meth c A Q ls C hret hP hD hS hl
  have hl : lv_has ls 6 [(0, .ref a_this), (1, .ref a_H)] := hl
  unfold f_X0_ofMostWorth at hf
  obtain ⟨hx, hb, hml, hown, hts, hK, hA⟩ := id C
  refine lv_iconst (v := (0 : Int32)) hx hb dX0_ofMostWorth_0 (by decide) ?_
  refine lv_istore_n (lv' := [(2, .int (0 : Int32)), (0, .ref a_this), (1, .ref a_H)]) hx hb dX0_ofMostWorth_1 rfl hl (by decide) rfl (fun ls hl => ?_)
  refine lv_iconst (v := (-1 : Int32)) hx hb dX0_ofMostWorth_2 (by decide) ?_
  refine lv_istore_n (lv' := [(3, .int (-1 : Int32)), (2, .int (0 : Int32)), (0, .ref a_this), (1, .ref a_H)]) hx hb dX0_ofMostWorth_3 rfl hl (by decide) rfl (fun ls hl => ?_)
  refine lv_iconst (v := (0 : Int32)) hx hb dX0_ofMostWorth_4 (by decide) ?_
  refine lv_istore (lv' := [(4, .int (0 : Int32)), (3, .int (-1 : Int32)), (2, .int (0 : Int32)), (0, .ref a_this), (1, .ref a_H)]) hx hb dX0_ofMostWorth_5 hl (by decide) rfl (fun ls hl => ?_)
  obtain ⟨q6, hq6, hf⟩ := ob_bind hf
  refine wl_X0_ofMostWorth_7 C FU (0 : Int32) (-1 : Int32) (0 : Int32) _ _ _ _ hq6 (fun H locs ls hP hD hS hl => ?_) hP hD hS (lv_sub hl [3, 4, 2, 1, 0] rfl)
  refine lv_iload_n hx hb dX0_ofMostWorth_52 rfl (lv_at hl 0 rfl) ?_
  obtain rfl := Option.some.inj hf
  exact hret _ _ _ _ dX0_ofMostWorth_53 hP hD hS
abbrev rm_X2_lowestHeap : Room := { frames := 1, cells := 0, slots := 0, locals := 20 }
abbrev wd_X2_lowestHeap (cyI cyJ cyZ : ClassId) : va_W := []
def f_X2_lowestHeap (x0 : Int32) : Option (Int32) := (f_J6_bitCount_0f7a4 ((x0 &&& (-x0)) - (1 : Int32))).bind (fun q1 => some q1)
set_option maxHeartbeats 4000000 in
set_option maxRecDepth 100000 in
theorem c_X2_lowestHeap (l : Launch) (D : va_G) (cyI cyJ cyZ : ClassId) (x0 : Int32) (q : Int32) (hf : f_X2_lowestHeap x0 = some q) : kMi l yX2_lowestHeap wsX2_lowestHeap rm_X2_lowestHeap D (kTy cyI cyJ cyZ) [.int x0] (wd_X2_lowestHeap cyI cyJ cyZ) (wd_X2_lowestHeap cyI cyJ cyZ) q := by
  refine kMi_of (cc := cX2_lowestHeap) (nL := 1) (own := RX2) (by decide) rfl rfl (Nat.le_of_ble_eq_true rfl) ?_
  intro p e s m below meth c A Q ls C hret hP hD hS hl
  have hl : lv_has ls 1 [(0, .int x0)] := hl
  unfold f_X2_lowestHeap at hf
  obtain ⟨hx, hb, hml, hown, hts, hK, hA⟩ := id C
  have cw53 := va_cwS (R := rm_X2_lowestHeap) (rm := rm_J6_bitCount_0f7a4) 1 hts gX2_lowestHeap_J6_bitCount_0f7a4 rfl rfl rfl (by decide +kernel) ⟨Nat.le_of_ble_eq_true rfl, Nat.le_of_ble_eq_true rfl⟩
  refine lv_iload_n hx hb dX2_lowestHeap_0 rfl (lv_at hl 0 rfl) ?_
  refine lv_iload_n hx hb dX2_lowestHeap_1 rfl (lv_at hl 0 rfl) ?_
  refine lv_ineg hx hb dX2_lowestHeap_2 ?_
  refine lv_iand hx hb dX2_lowestHeap_3 ?_
  refine lv_iconst (v := (1 : Int32)) hx hb dX2_lowestHeap_4 (by decide) ?_
  refine lv_isub hx hb dX2_lowestHeap_5 ?_
  obtain ⟨q1, hq1, hf⟩ := ob_bind hf
  refine k_Si (wo := (wd_X2_lowestHeap cyI cyJ cyZ)) (As := [.int ((x0 &&& (-x0)) - (1 : Int32))]) (rest := []) C (c_J6_bitCount_0f7a4 l D cyI cyJ cyZ   ((x0 &&& (-x0)) - (1 : Int32)) q1 hq1) cw53 hP hD hS [] [] [] rfl rfl rfl (by decide) rfl rfl hl.1 (Nat.le_of_ble_eq_true rfl) dX2_lowestHeap_6 ⟨Nat.zero_le _, Nat.zero_le _⟩ (fun H locs hP hD hS => ?_)
  obtain rfl := Option.some.inj hf
  exact hret _ _ _ _ dX2_lowestHeap_9 hP hD hS
abbrev rm_X2_gather : Room := { frames := 2, cells := 0, slots := 0, locals := 40 }
abbrev wd_X2_gather (cyI cyJ cyZ : ClassId) (a_H a_H_sets a_H_papers a_H_worths a_this a_common a_anyone a_papers a_due a_mostHad a_sets : Nat) (v_H_count : Int32) (v_count : Int32) (v_breachSize : Int32) (v_breachGroup : Int32) (v_H_papers : Nat → Int32) (v_H_sets : Nat → Int32) (v_anyone : Nat → Int32) (v_common : Nat → Int32) (v_due : Nat → Int32) (v_papers : Nat → Int32) (v_sets : Nat → Int32) : va_W := [(a_H, .inr (2, [.ref a_H_sets, .ref a_H_papers, .ref a_H_worths, .int v_H_count])), (a_this, .inr (1, [.ref a_common, .ref a_anyone, .ref a_papers, .ref a_due, .ref a_mostHad, .ref a_sets, .int v_count, .int v_breachSize, .int v_breachGroup])), (a_H_papers, .inl (cyI, 7, .inl v_H_papers)), (a_H_sets, .inl (cyI, 7, .inl v_H_sets)), (a_anyone, .inl (cyI, 64, .inl v_anyone)), (a_common, .inl (cyI, 64, .inl v_common)), (a_due, .inl (cyI, 64, .inl v_due)), (a_papers, .inl (cyI, 64, .inl v_papers)), (a_sets, .inl (cyI, 6, .inl v_sets))]
def lp_X2_gather_32 (y2 : Int32) (y3 : Int32) (v_H_sets : Nat → Int32) : Nat → Int32 → (Nat → Int32) → Option ((Nat → Int32))
  | 0, _, _ => none
  | n + 1, y4, v_sets => (if (6 : Int32) ≤ y4 then some v_sets else (if ob_in y4 7 = true then (if ob_in y4 6 = true then lp_X2_gather_32 y2 y3 v_H_sets n (y4 + (1 : Int32)) (upd v_sets y4.toNatClampNeg (v_H_sets y4.toNatClampNeg)) else none) else none))
def lp_X2_gather_62 (y2 : Int32) (y3 : Int32) (v_count : Int32) (v_H_papers : Nat → Int32) (v_H_sets : Nat → Int32) : Nat → Int32 → (Nat → Int32) → (Nat → Int32) → (Nat → Int32) → (Nat → Int32) → Option ((Nat → Int32) × (Nat → Int32) × (Nat → Int32) × (Nat → Int32))
  | 0, _, _, _, _, _ => none
  | n + 1, y4, v_anyone, v_common, v_due, v_papers => (if v_count ≤ y4 then some (v_anyone, v_common, v_due, v_papers) else (f_X2_lowestHeap y4).bind (fun q7 => (if ob_in (y4 &&& (y4 - (1 : Int32))) 64 = true then (if ob_in q7 7 = true then (if ob_in y4 64 = true then (if ob_in (y4 &&& (y4 - (1 : Int32))) 64 = true then (if ob_in q7 7 = true then (if ob_in y4 64 = true then (if ob_in (y4 &&& (y4 - (1 : Int32))) 64 = true then (if ob_in q7 7 = true then (if ob_in y4 64 = true then (if y3 ≤ 0 then (if ob_in y4 64 = true then (f_J6_bitCount_0f7a4 ((upd v_common y4.toNatClampNeg ((v_common (y4 &&& (y4 - (1 : Int32))).toNatClampNeg) &&& (v_H_sets q7.toNatClampNeg))) y4.toNatClampNeg)).bind (fun q19 => (if ob_in y4 64 = true then lp_X2_gather_62 y2 y3 v_count v_H_papers v_H_sets n (y4 + (1 : Int32)) (upd v_anyone y4.toNatClampNeg ((v_anyone (y4 &&& (y4 - (1 : Int32))).toNatClampNeg) ||| (v_H_sets q7.toNatClampNeg))) (upd v_common y4.toNatClampNeg ((v_common (y4 &&& (y4 - (1 : Int32))).toNatClampNeg) &&& (v_H_sets q7.toNatClampNeg))) (upd v_due y4.toNatClampNeg (if (0 : Int32) < q19 then (0 : Int32) else q19)) (upd v_papers y4.toNatClampNeg ((v_papers (y4 &&& (y4 - (1 : Int32))).toNatClampNeg) + (v_H_papers q7.toNatClampNeg))) else none)) else none) else (if ob_in y4 64 = true then (if y3 = 0 then none else ob_let ((((upd v_papers y4.toNatClampNeg ((v_papers (y4 &&& (y4 - (1 : Int32))).toNatClampNeg) + (v_H_papers q7.toNatClampNeg))) y4.toNatClampNeg) * y2) / y3) (fun (b23 : Int32) => (if ob_in y4 64 = true then (f_J6_bitCount_0f7a4 ((upd v_common y4.toNatClampNeg ((v_common (y4 &&& (y4 - (1 : Int32))).toNatClampNeg) &&& (v_H_sets q7.toNatClampNeg))) y4.toNatClampNeg)).bind (fun q25 => (if ob_in y4 64 = true then lp_X2_gather_62 y2 y3 v_count v_H_papers v_H_sets n (y4 + (1 : Int32)) (upd v_anyone y4.toNatClampNeg ((v_anyone (y4 &&& (y4 - (1 : Int32))).toNatClampNeg) ||| (v_H_sets q7.toNatClampNeg))) (upd v_common y4.toNatClampNeg ((v_common (y4 &&& (y4 - (1 : Int32))).toNatClampNeg) &&& (v_H_sets q7.toNatClampNeg))) (upd v_due y4.toNatClampNeg (if b23 < q25 then b23 else q25)) (upd v_papers y4.toNatClampNeg ((v_papers (y4 &&& (y4 - (1 : Int32))).toNatClampNeg) + (v_H_papers q7.toNatClampNeg))) else none)) else none))) else none)) else none) else none) else none) else none) else none) else none) else none) else none) else none)))
def f_X2_gather (x2 : Int32) (v_H_count : Int32) (v_count : Int32) (v_H_papers : Nat → Int32) (v_H_sets : Nat → Int32) (v_anyone : Nat → Int32) (v_common : Nat → Int32) (v_due : Nat → Int32) (v_papers : Nat → Int32) (v_sets : Nat → Int32) : Option (Int32 × (Nat → Int32) × (Nat → Int32) × (Nat → Int32) × (Nat → Int32) × (Nat → Int32)) := (f_X3_total v_H_count v_H_papers).bind (fun q1 => (lp_X2_gather_32 x2 q1 v_H_sets FU (0 : Int32) v_sets).bind (fun q5 => (lp_X2_gather_62 x2 q1 ((1 : Int32) <<< ((if (6 : Int32) < v_H_count then (6 : Int32) else v_H_count) &&& 31)) v_H_papers v_H_sets FU (1 : Int32) v_anyone (upd v_common (0 : Int32).toNatClampNeg (255 : Int32)) v_due v_papers).bind (fun q27 => some (((1 : Int32) <<< ((if (6 : Int32) < v_H_count then (6 : Int32) else v_H_count) &&& 31)), q27.1, q27.2.1, q27.2.2.1, q27.2.2.2, q5))))
set_option maxHeartbeats 4000000 in
set_option maxRecDepth 100000 in
theorem wl_X2_gather_32 {p : Program} {l : Launch} {e : Env} {s : State} {m : MethodId} {args : Array Value} {below : List Frame} {meth : Method} {c : Code} {A : Nat → Prop} {Q : State → Prop} {D : va_G} {cyI cyJ cyZ : ClassId} {a_H a_H_sets a_H_papers a_H_worths a_this a_common a_anyone a_papers a_due a_mostHad a_sets : Nat} {y2 : Int32} {y3 : Int32} {v_H_count : Int32} {v_count : Int32} {v_breachSize : Int32} {v_breachGroup : Int32} {v_H_papers : Nat → Int32} {v_H_sets : Nat → Int32} {v_anyone : Nat → Int32} {v_common : Nat → Int32} {v_due : Nat → Int32} {v_papers : Nat → Int32} (C : kC p s m args c cX2_gather 8 RX2 wsX2_gather D (kTy cyI cyJ cyZ) A) :
    ∀ (n : Nat) (y4 : Int32) (v_sets : Nat → Int32) (q : (Nat → Int32)) (H : Heap) (locs : List Loc) (ls : Array Slot), lp_X2_gather_32 y2 y3 v_H_sets n y4 v_sets = some q → (∀ (H : Heap) (locs : List Loc) (ls : Array Slot), va_P D vwCl (wd_X2_gather cyI cyJ cyZ a_H a_H_sets a_H_papers a_H_worths a_this a_common a_anyone a_papers a_due a_mostHad a_sets v_H_count v_count v_breachSize v_breachGroup v_H_papers v_H_sets v_anyone v_common v_due v_papers q) H → va_D A (wd_X2_gather cyI cyJ cyZ a_H a_H_sets a_H_papers a_H_worths a_this a_common a_anyone a_papers a_due a_mostHad a_sets v_H_count v_count v_breachSize v_breachGroup v_H_papers v_H_sets v_anyone v_common v_due v_papers q) → va_S A s.heap H locs → lv_has ls 8 [(0, .ref a_this), (1, .ref a_H), (2, .int y2), (3, .int y3)] → W p l e rm_X2_gather s m args below meth c H locs 0 0 Q (F0 m 59 ls [])) → va_P D vwCl (wd_X2_gather cyI cyJ cyZ a_H a_H_sets a_H_papers a_H_worths a_this a_common a_anyone a_papers a_due a_mostHad a_sets v_H_count v_count v_breachSize v_breachGroup v_H_papers v_H_sets v_anyone v_common v_due v_papers v_sets) H → va_D A (wd_X2_gather cyI cyJ cyZ a_H a_H_sets a_H_papers a_H_worths a_this a_common a_anyone a_papers a_due a_mostHad a_sets v_H_count v_count v_breachSize v_breachGroup v_H_papers v_H_sets v_anyone v_common v_due v_papers v_sets) → va_S A s.heap H locs → lv_has ls 8 [(0, .ref a_this), (1, .ref a_H), (2, .int y2), (3, .int y3), (4, .int y4)] → W p l e rm_X2_gather s m args below meth c H locs 0 0 Q (F0 m 32 ls []) := by
  obtain ⟨hx, hb, hml, hown, hts, hK, hA⟩ := id C
  have iX2 : ∀ w ∈ u_ws RX2 TX2 9, w ∈ wsX2_gather := by decide +kernel
  have iX3 : ∀ w ∈ u_ws RX3 TX3 4, w ∈ wsX2_gather := by decide +kernel
  have fl27 := hts (.fieldLink RX2 27 "FairSeats$Groups" "sets" "[I") (by decide +kernel)
  have fl47 := hts (.fieldLink RX2 47 "FairSeats$Heaps" "sets" "[I") (by decide +kernel)
  intro n
  induction n with
  | zero =>
    intro y4 v_sets q H locs ls hf K hP hD hS hl
    rw [lp_X2_gather_32] at hf
    cases hf
  | succ n ih =>
    intro y4 v_sets q H locs ls hf K hP hD hS hl
    rw [lp_X2_gather_32] at hf
    refine lv_iload hx hb dX2_gather_32 (lv_at hl 4 rfl) ?_
    refine lv_bipush (v := (6 : Int32)) hx hb dX2_gather_34 (by decide) ?_
    refine lv_icmp_ge (tgt := 59) hx hb dX2_gather_36 (by decide) (fun c2 => ?_) (fun c2 => ?_)
    · have hf := ob_pos c2 hf
      obtain rfl := Option.some.inj hf
      exact K _ _ _ hP hD hS (lv_sub hl [0, 1, 2, 3] rfl)
    · have hf := ob_neg c2 hf
      refine lv_aload_n hx hb dX2_gather_39 rfl (lv_at hl 0 rfl) ?_
      refine va_get (D := D) (ci := 1) (v := .ref a_sets) (C := RX2) (T := TX2) (N := 9) hx hb hts iX2 hown hK hP 1 rfl rfl 5 (by decide) fl27 (fun _ h9 => h9) rfl dX2_gather_40 ?_
      refine lv_iload hx hb dX2_gather_43 (lv_at hl 4 rfl) ?_
      refine lv_aload_n hx hb dX2_gather_45 rfl (lv_at hl 1 rfl) ?_
      refine va_get (D := D) (ci := 2) (v := .ref a_H_sets) (C := RX3) (T := TX3) (N := 4) hx hb hts iX3 hown hK hP 0 rfl rfl 0 (by decide) fl47 (fun _ h9 => h9) rfl dX2_gather_46 ?_
      refine lv_iload hx hb dX2_gather_49 (lv_at hl 4 rfl) ?_
      obtain ⟨h3, hf⟩ := og_in hf
      refine va_iald hx hb hK hP 3 0 rfl rfl h3 dX2_gather_51 ?_
      obtain ⟨h4, hf⟩ := og_in hf
      refine va_iast hx hb hK hP hD hS 8 0 rfl rfl h4 dX2_gather_52 (fun H locs hP hD hS => ?_)
      have hP : va_P D vwCl (wd_X2_gather cyI cyJ cyZ a_H a_H_sets a_H_papers a_H_worths a_this a_common a_anyone a_papers a_due a_mostHad a_sets v_H_count v_count v_breachSize v_breachGroup v_H_papers v_H_sets v_anyone v_common v_due v_papers (upd v_sets y4.toNatClampNeg (v_H_sets y4.toNatClampNeg))) H := hP
      have hD : va_D A (wd_X2_gather cyI cyJ cyZ a_H a_H_sets a_H_papers a_H_worths a_this a_common a_anyone a_papers a_due a_mostHad a_sets v_H_count v_count v_breachSize v_breachGroup v_H_papers v_H_sets v_anyone v_common v_due v_papers (upd v_sets y4.toNatClampNeg (v_H_sets y4.toNatClampNeg))) := hD
      refine lv_iinc (v := (y4 + (1 : Int32))) (lv' := [(4, .int (y4 + (1 : Int32))), (0, .ref a_this), (1, .ref a_H), (2, .int y2), (3, .int y3)]) hx hb dX2_gather_53 hl (k := 4) rfl rfl (by decide) rfl (fun ls hl => ?_)
      refine lv_goto (tgt := 32) hx hb dX2_gather_56 (by decide) ?_
      exact ih (y4 + (1 : Int32)) (upd v_sets y4.toNatClampNeg (v_H_sets y4.toNatClampNeg)) _ _ _ _ hf K hP hD hS (lv_sub hl [1, 2, 3, 4, 0] rfl)
set_option maxHeartbeats 4000000 in
set_option maxRecDepth 100000 in
theorem wl_X2_gather_62 {p : Program} {l : Launch} {e : Env} {s : State} {m : MethodId} {args : Array Value} {below : List Frame} {meth : Method} {c : Code} {A : Nat → Prop} {Q : State → Prop} {D : va_G} {cyI cyJ cyZ : ClassId} {a_H a_H_sets a_H_papers a_H_worths a_this a_common a_anyone a_papers a_due a_mostHad a_sets : Nat} {y2 : Int32} {y3 : Int32} {v_H_count : Int32} {v_count : Int32} {v_breachSize : Int32} {v_breachGroup : Int32} {v_H_papers : Nat → Int32} {v_H_sets : Nat → Int32} {v_sets : Nat → Int32} (C : kC p s m args c cX2_gather 8 RX2 wsX2_gather D (kTy cyI cyJ cyZ) A) :
    ∀ (n : Nat) (y4 : Int32) (v_anyone : Nat → Int32) (v_common : Nat → Int32) (v_due : Nat → Int32) (v_papers : Nat → Int32) (q : (Nat → Int32) × (Nat → Int32) × (Nat → Int32) × (Nat → Int32)) (H : Heap) (locs : List Loc) (ls : Array Slot), lp_X2_gather_62 y2 y3 v_count v_H_papers v_H_sets n y4 v_anyone v_common v_due v_papers = some q → (∀ (H : Heap) (locs : List Loc) (ls : Array Slot), va_P D vwCl (wd_X2_gather cyI cyJ cyZ a_H a_H_sets a_H_papers a_H_worths a_this a_common a_anyone a_papers a_due a_mostHad a_sets v_H_count v_count v_breachSize v_breachGroup v_H_papers v_H_sets q.1 q.2.1 q.2.2.1 q.2.2.2 v_sets) H → va_D A (wd_X2_gather cyI cyJ cyZ a_H a_H_sets a_H_papers a_H_worths a_this a_common a_anyone a_papers a_due a_mostHad a_sets v_H_count v_count v_breachSize v_breachGroup v_H_papers v_H_sets q.1 q.2.1 q.2.2.1 q.2.2.2 v_sets) → va_S A s.heap H locs → lv_has ls 8 [] → W p l e rm_X2_gather s m args below meth c H locs 0 0 Q (F0 m 202 ls [])) → va_P D vwCl (wd_X2_gather cyI cyJ cyZ a_H a_H_sets a_H_papers a_H_worths a_this a_common a_anyone a_papers a_due a_mostHad a_sets v_H_count v_count v_breachSize v_breachGroup v_H_papers v_H_sets v_anyone v_common v_due v_papers v_sets) H → va_D A (wd_X2_gather cyI cyJ cyZ a_H a_H_sets a_H_papers a_H_worths a_this a_common a_anyone a_papers a_due a_mostHad a_sets v_H_count v_count v_breachSize v_breachGroup v_H_papers v_H_sets v_anyone v_common v_due v_papers v_sets) → va_S A s.heap H locs → lv_has ls 8 [(0, .ref a_this), (1, .ref a_H), (2, .int y2), (3, .int y3), (4, .int y4)] → W p l e rm_X2_gather s m args below meth c H locs 0 0 Q (F0 m 62 ls []) := by
  obtain ⟨hx, hb, hml, hown, hts, hK, hA⟩ := id C
  have iX2 : ∀ w ∈ u_ws RX2 TX2 9, w ∈ wsX2_gather := by decide +kernel
  have iX3 : ∀ w ∈ u_ws RX3 TX3 4, w ∈ wsX2_gather := by decide +kernel
  have fl9 := hts (.fieldLink RX2 9 "FairSeats$Groups" "common" "[I") (by decide +kernel)
  have fl15 := hts (.fieldLink RX2 15 "FairSeats$Groups" "anyone" "[I") (by decide +kernel)
  have fl18 := hts (.fieldLink RX2 18 "FairSeats$Groups" "papers" "[I") (by decide +kernel)
  have fl21 := hts (.fieldLink RX2 21 "FairSeats$Groups" "due" "[I") (by decide +kernel)
  have fl46 := hts (.fieldLink RX2 46 "FairSeats$Groups" "count" "I") (by decide +kernel)
  have fl47 := hts (.fieldLink RX2 47 "FairSeats$Heaps" "sets" "[I") (by decide +kernel)
  have fl52 := hts (.fieldLink RX2 52 "FairSeats$Heaps" "papers" "[I") (by decide +kernel)
  have lk40 := hts (.methodLink RX2 40 Lib.Math.min.name) (by decide +kernel)
  have ls40 := hts (.static Lib.Math.min.name) (by decide +kernel)
  have li40 := hts (.initialized "java/lang/Math") (by decide +kernel)
  have lc40 := hts (.code Lib.Math.min.name Lib.Math.min.code 2 (some .int)) (by decide +kernel)
  have cw48 := va_cwS (R := rm_X2_gather) (rm := rm_X2_lowestHeap) 1 hts gX2_gather_X2_lowestHeap rfl rfl rfl (by decide +kernel) ⟨Nat.le_of_ble_eq_true rfl, Nat.le_of_ble_eq_true rfl⟩
  have cw53 := va_cwS (R := rm_X2_gather) (rm := rm_J6_bitCount_0f7a4) 1 hts gX2_gather_J6_bitCount_0f7a4 rfl rfl rfl (by decide +kernel) ⟨Nat.le_of_ble_eq_true rfl, Nat.le_of_ble_eq_true rfl⟩
  intro n
  induction n with
  | zero =>
    intro y4 v_anyone v_common v_due v_papers q H locs ls hf K hP hD hS hl
    rw [lp_X2_gather_62] at hf
    cases hf
  | succ n ih =>
    intro y4 v_anyone v_common v_due v_papers q H locs ls hf K hP hD hS hl
    rw [lp_X2_gather_62] at hf
    refine lv_iload hx hb dX2_gather_62 (lv_at hl 4 rfl) ?_
    refine lv_aload_n hx hb dX2_gather_64 rfl (lv_at hl 0 rfl) ?_
    refine va_get (D := D) (ci := 1) (v := .int v_count) (C := RX2) (T := TX2) (N := 9) hx hb hts iX2 hown hK hP 1 rfl rfl 6 (by decide) fl46 (fun _ h9 => h9) rfl dX2_gather_65 ?_
    refine lv_icmp_ge (tgt := 202) hx hb dX2_gather_68 (by decide) (fun c6 => ?_) (fun c6 => ?_)
    · have hf := ob_pos c6 hf
      obtain rfl := Option.some.inj hf
      exact K _ _ _ hP hD hS (lv_sub hl [] rfl)
    · have hf := ob_neg c6 hf
      refine lv_iload hx hb dX2_gather_71 (lv_at hl 4 rfl) ?_
      refine lv_iload hx hb dX2_gather_73 (lv_at hl 4 rfl) ?_
      refine lv_iconst (v := (1 : Int32)) hx hb dX2_gather_75 (by decide) ?_
      refine lv_isub hx hb dX2_gather_76 ?_
      refine lv_iand hx hb dX2_gather_77 ?_
      refine lv_istore (lv' := [(5, .int (y4 &&& (y4 - (1 : Int32)))), (0, .ref a_this), (1, .ref a_H), (2, .int y2), (3, .int y3), (4, .int y4)]) hx hb dX2_gather_78 hl (by decide) rfl (fun ls hl => ?_)
      refine lv_iload hx hb dX2_gather_80 (lv_at hl 5 rfl) ?_
      obtain ⟨q7, hq7, hf⟩ := ob_bind hf
      refine k_Si (wo := (wd_X2_gather cyI cyJ cyZ a_H a_H_sets a_H_papers a_H_worths a_this a_common a_anyone a_papers a_due a_mostHad a_sets v_H_count v_count v_breachSize v_breachGroup v_H_papers v_H_sets v_anyone v_common v_due v_papers v_sets)) (As := [.int y4]) (rest := []) C (c_X2_lowestHeap l D cyI cyJ cyZ   y4 q7 hq7) cw48 hP hD hS [] [0, 1, 2, 3, 4, 5, 6, 7, 8] [0, 1, 2, 3, 4, 5, 6, 7, 8] rfl rfl rfl (by decide) rfl rfl hl.1 (Nat.le_of_ble_eq_true rfl) dX2_gather_82 ⟨Nat.zero_le _, Nat.zero_le _⟩ (fun H locs hP hD hS => ?_)
      refine lv_istore (lv' := [(6, .int q7), (5, .int (y4 &&& (y4 - (1 : Int32)))), (0, .ref a_this), (1, .ref a_H), (2, .int y2), (3, .int y3), (4, .int y4)]) hx hb dX2_gather_85 hl (by decide) rfl (fun ls hl => ?_)
      refine lv_aload_n hx hb dX2_gather_87 rfl (lv_at hl 2 rfl) ?_
      refine va_get (D := D) (ci := 1) (v := .ref a_common) (C := RX2) (T := TX2) (N := 9) hx hb hts iX2 hown hK hP 1 rfl rfl 0 (by decide) fl9 (fun _ h9 => h9) rfl dX2_gather_88 ?_
      refine lv_iload hx hb dX2_gather_91 (lv_at hl 6 rfl) ?_
      refine lv_aload_n hx hb dX2_gather_93 rfl (lv_at hl 2 rfl) ?_
      refine va_get (D := D) (ci := 1) (v := .ref a_common) (C := RX2) (T := TX2) (N := 9) hx hb hts iX2 hown hK hP 1 rfl rfl 0 (by decide) fl9 (fun _ h9 => h9) rfl dX2_gather_94 ?_
      refine lv_iload hx hb dX2_gather_97 (lv_at hl 1 rfl) ?_
      obtain ⟨h8, hf⟩ := og_in hf
      refine va_iald hx hb hK hP 5 0 rfl rfl h8 dX2_gather_99 ?_
      refine lv_aload_n hx hb dX2_gather_100 rfl (lv_at hl 3 rfl) ?_
      refine va_get (D := D) (ci := 2) (v := .ref a_H_sets) (C := RX3) (T := TX3) (N := 4) hx hb hts iX3 hown hK hP 0 rfl rfl 0 (by decide) fl47 (fun _ h9 => h9) rfl dX2_gather_101 ?_
      refine lv_iload hx hb dX2_gather_104 (lv_at hl 0 rfl) ?_
      obtain ⟨h9, hf⟩ := og_in hf
      refine va_iald hx hb hK hP 3 0 rfl rfl h9 dX2_gather_106 ?_
      refine lv_iand hx hb dX2_gather_107 ?_
      obtain ⟨h10, hf⟩ := og_in hf
      refine va_iast hx hb hK hP hD hS 5 0 rfl rfl h10 dX2_gather_108 (fun H locs hP hD hS => ?_)
      have hP : va_P D vwCl (wd_X2_gather cyI cyJ cyZ a_H a_H_sets a_H_papers a_H_worths a_this a_common a_anyone a_papers a_due a_mostHad a_sets v_H_count v_count v_breachSize v_breachGroup v_H_papers v_H_sets v_anyone (upd v_common y4.toNatClampNeg ((v_common (y4 &&& (y4 - (1 : Int32))).toNatClampNeg) &&& (v_H_sets q7.toNatClampNeg))) v_due v_papers v_sets) H := hP
      have hD : va_D A (wd_X2_gather cyI cyJ cyZ a_H a_H_sets a_H_papers a_H_worths a_this a_common a_anyone a_papers a_due a_mostHad a_sets v_H_count v_count v_breachSize v_breachGroup v_H_papers v_H_sets v_anyone (upd v_common y4.toNatClampNeg ((v_common (y4 &&& (y4 - (1 : Int32))).toNatClampNeg) &&& (v_H_sets q7.toNatClampNeg))) v_due v_papers v_sets) := hD
      refine lv_aload_n hx hb dX2_gather_109 rfl (lv_at hl 2 rfl) ?_
      refine va_get (D := D) (ci := 1) (v := .ref a_anyone) (C := RX2) (T := TX2) (N := 9) hx hb hts iX2 hown hK hP 1 rfl rfl 1 (by decide) fl15 (fun _ h9 => h9) rfl dX2_gather_110 ?_
      refine lv_iload hx hb dX2_gather_113 (lv_at hl 6 rfl) ?_
      refine lv_aload_n hx hb dX2_gather_115 rfl (lv_at hl 2 rfl) ?_
      refine va_get (D := D) (ci := 1) (v := .ref a_anyone) (C := RX2) (T := TX2) (N := 9) hx hb hts iX2 hown hK hP 1 rfl rfl 1 (by decide) fl15 (fun _ h9 => h9) rfl dX2_gather_116 ?_
      refine lv_iload hx hb dX2_gather_119 (lv_at hl 1 rfl) ?_
      obtain ⟨h11, hf⟩ := og_in hf
      refine va_iald hx hb hK hP 4 0 rfl rfl h11 dX2_gather_121 ?_
      refine lv_aload_n hx hb dX2_gather_122 rfl (lv_at hl 3 rfl) ?_
      refine va_get (D := D) (ci := 2) (v := .ref a_H_sets) (C := RX3) (T := TX3) (N := 4) hx hb hts iX3 hown hK hP 0 rfl rfl 0 (by decide) fl47 (fun _ h9 => h9) rfl dX2_gather_123 ?_
      refine lv_iload hx hb dX2_gather_126 (lv_at hl 0 rfl) ?_
      obtain ⟨h12, hf⟩ := og_in hf
      refine va_iald hx hb hK hP 3 0 rfl rfl h12 dX2_gather_128 ?_
      refine lv_ior hx hb dX2_gather_129 ?_
      obtain ⟨h13, hf⟩ := og_in hf
      refine va_iast hx hb hK hP hD hS 4 0 rfl rfl h13 dX2_gather_130 (fun H locs hP hD hS => ?_)
      have hP : va_P D vwCl (wd_X2_gather cyI cyJ cyZ a_H a_H_sets a_H_papers a_H_worths a_this a_common a_anyone a_papers a_due a_mostHad a_sets v_H_count v_count v_breachSize v_breachGroup v_H_papers v_H_sets (upd v_anyone y4.toNatClampNeg ((v_anyone (y4 &&& (y4 - (1 : Int32))).toNatClampNeg) ||| (v_H_sets q7.toNatClampNeg))) (upd v_common y4.toNatClampNeg ((v_common (y4 &&& (y4 - (1 : Int32))).toNatClampNeg) &&& (v_H_sets q7.toNatClampNeg))) v_due v_papers v_sets) H := hP
      have hD : va_D A (wd_X2_gather cyI cyJ cyZ a_H a_H_sets a_H_papers a_H_worths a_this a_common a_anyone a_papers a_due a_mostHad a_sets v_H_count v_count v_breachSize v_breachGroup v_H_papers v_H_sets (upd v_anyone y4.toNatClampNeg ((v_anyone (y4 &&& (y4 - (1 : Int32))).toNatClampNeg) ||| (v_H_sets q7.toNatClampNeg))) (upd v_common y4.toNatClampNeg ((v_common (y4 &&& (y4 - (1 : Int32))).toNatClampNeg) &&& (v_H_sets q7.toNatClampNeg))) v_due v_papers v_sets) := hD
      refine lv_aload_n hx hb dX2_gather_131 rfl (lv_at hl 2 rfl) ?_
      refine va_get (D := D) (ci := 1) (v := .ref a_papers) (C := RX2) (T := TX2) (N := 9) hx hb hts iX2 hown hK hP 1 rfl rfl 2 (by decide) fl18 (fun _ h9 => h9) rfl dX2_gather_132 ?_
      refine lv_iload hx hb dX2_gather_135 (lv_at hl 6 rfl) ?_
      refine lv_aload_n hx hb dX2_gather_137 rfl (lv_at hl 2 rfl) ?_
      refine va_get (D := D) (ci := 1) (v := .ref a_papers) (C := RX2) (T := TX2) (N := 9) hx hb hts iX2 hown hK hP 1 rfl rfl 2 (by decide) fl18 (fun _ h9 => h9) rfl dX2_gather_138 ?_
      refine lv_iload hx hb dX2_gather_141 (lv_at hl 1 rfl) ?_
      obtain ⟨h14, hf⟩ := og_in hf
      refine va_iald hx hb hK hP 7 0 rfl rfl h14 dX2_gather_143 ?_
      refine lv_aload_n hx hb dX2_gather_144 rfl (lv_at hl 3 rfl) ?_
      refine va_get (D := D) (ci := 2) (v := .ref a_H_papers) (C := RX3) (T := TX3) (N := 4) hx hb hts iX3 hown hK hP 0 rfl rfl 1 (by decide) fl52 (fun _ h9 => h9) rfl dX2_gather_145 ?_
      refine lv_iload hx hb dX2_gather_148 (lv_at hl 0 rfl) ?_
      obtain ⟨h15, hf⟩ := og_in hf
      refine va_iald hx hb hK hP 2 0 rfl rfl h15 dX2_gather_150 ?_
      refine lv_iadd hx hb dX2_gather_151 ?_
      obtain ⟨h16, hf⟩ := og_in hf
      refine va_iast hx hb hK hP hD hS 7 0 rfl rfl h16 dX2_gather_152 (fun H locs hP hD hS => ?_)
      have hP : va_P D vwCl (wd_X2_gather cyI cyJ cyZ a_H a_H_sets a_H_papers a_H_worths a_this a_common a_anyone a_papers a_due a_mostHad a_sets v_H_count v_count v_breachSize v_breachGroup v_H_papers v_H_sets (upd v_anyone y4.toNatClampNeg ((v_anyone (y4 &&& (y4 - (1 : Int32))).toNatClampNeg) ||| (v_H_sets q7.toNatClampNeg))) (upd v_common y4.toNatClampNeg ((v_common (y4 &&& (y4 - (1 : Int32))).toNatClampNeg) &&& (v_H_sets q7.toNatClampNeg))) v_due (upd v_papers y4.toNatClampNeg ((v_papers (y4 &&& (y4 - (1 : Int32))).toNatClampNeg) + (v_H_papers q7.toNatClampNeg))) v_sets) H := hP
      have hD : va_D A (wd_X2_gather cyI cyJ cyZ a_H a_H_sets a_H_papers a_H_worths a_this a_common a_anyone a_papers a_due a_mostHad a_sets v_H_count v_count v_breachSize v_breachGroup v_H_papers v_H_sets (upd v_anyone y4.toNatClampNeg ((v_anyone (y4 &&& (y4 - (1 : Int32))).toNatClampNeg) ||| (v_H_sets q7.toNatClampNeg))) (upd v_common y4.toNatClampNeg ((v_common (y4 &&& (y4 - (1 : Int32))).toNatClampNeg) &&& (v_H_sets q7.toNatClampNeg))) v_due (upd v_papers y4.toNatClampNeg ((v_papers (y4 &&& (y4 - (1 : Int32))).toNatClampNeg) + (v_H_papers q7.toNatClampNeg))) v_sets) := hD
      refine lv_iload_n hx hb dX2_gather_153 rfl (lv_at hl 5 rfl) ?_
      refine lv_if_le (tgt := 171) hx hb dX2_gather_154 (by decide) (fun c17 => ?_) (fun c17 => ?_)
      · have hf := ob_pos c17 hf
        refine lv_iconst (v := (0 : Int32)) hx hb dX2_gather_171 (by decide) ?_
        refine lv_istore (lv' := [(7, .int (0 : Int32)), (6, .int q7), (5, .int (y4 &&& (y4 - (1 : Int32)))), (0, .ref a_this), (1, .ref a_H), (2, .int y2), (3, .int y3), (4, .int y4)]) hx hb dX2_gather_172 hl (by decide) rfl (fun ls hl => ?_)
        refine lv_aload_n hx hb dX2_gather_174 rfl (lv_at hl 3 rfl) ?_
        refine va_get (D := D) (ci := 1) (v := .ref a_due) (C := RX2) (T := TX2) (N := 9) hx hb hts iX2 hown hK hP 1 rfl rfl 3 (by decide) fl21 (fun _ h9 => h9) rfl dX2_gather_175 ?_
        refine lv_iload hx hb dX2_gather_178 (lv_at hl 7 rfl) ?_
        refine lv_aload_n hx hb dX2_gather_180 rfl (lv_at hl 3 rfl) ?_
        refine va_get (D := D) (ci := 1) (v := .ref a_common) (C := RX2) (T := TX2) (N := 9) hx hb hts iX2 hown hK hP 1 rfl rfl 0 (by decide) fl9 (fun _ h9 => h9) rfl dX2_gather_181 ?_
        refine lv_iload hx hb dX2_gather_184 (lv_at hl 7 rfl) ?_
        obtain ⟨h18, hf⟩ := og_in hf
        refine va_iald hx hb hK hP 5 0 rfl rfl h18 dX2_gather_186 ?_
        obtain ⟨q19, hq19, hf⟩ := ob_bind hf
        refine k_Si (wo := (wd_X2_gather cyI cyJ cyZ a_H a_H_sets a_H_papers a_H_worths a_this a_common a_anyone a_papers a_due a_mostHad a_sets v_H_count v_count v_breachSize v_breachGroup v_H_papers v_H_sets (upd v_anyone y4.toNatClampNeg ((v_anyone (y4 &&& (y4 - (1 : Int32))).toNatClampNeg) ||| (v_H_sets q7.toNatClampNeg))) (upd v_common y4.toNatClampNeg ((v_common (y4 &&& (y4 - (1 : Int32))).toNatClampNeg) &&& (v_H_sets q7.toNatClampNeg))) v_due (upd v_papers y4.toNatClampNeg ((v_papers (y4 &&& (y4 - (1 : Int32))).toNatClampNeg) + (v_H_papers q7.toNatClampNeg))) v_sets)) (As := [.int ((upd v_common y4.toNatClampNeg ((v_common (y4 &&& (y4 - (1 : Int32))).toNatClampNeg) &&& (v_H_sets q7.toNatClampNeg))) y4.toNatClampNeg)]) (rest := [.int y4, .ref a_due]) C (c_J6_bitCount_0f7a4 l D cyI cyJ cyZ   ((upd v_common y4.toNatClampNeg ((v_common (y4 &&& (y4 - (1 : Int32))).toNatClampNeg) &&& (v_H_sets q7.toNatClampNeg))) y4.toNatClampNeg) q19 hq19) cw53 hP hD hS [] [0, 1, 2, 3, 4, 5, 6, 7, 8] [0, 1, 2, 3, 4, 5, 6, 7, 8] rfl rfl rfl (by decide) rfl rfl hl.1 (Nat.le_of_ble_eq_true rfl) dX2_gather_187 ⟨Nat.zero_le _, Nat.zero_le _⟩ (fun H locs hP hD hS => ?_)
        refine lv_iload hx hb dX2_gather_190 (lv_at hl 0 rfl) ?_
        refine va_mmin hx hb (by rw [hml]; exact hl.1.symm) hown lk40 ls40 li40 lc40 (Nat.le_of_ble_eq_true rfl) (Nat.le_of_ble_eq_true rfl) (Nat.zero_le _) (Nat.zero_le _) dX2_gather_192 ?_
        obtain ⟨h20, hf⟩ := og_in hf
        refine va_iast hx hb hK hP hD hS 6 0 rfl rfl h20 dX2_gather_195 (fun H locs hP hD hS => ?_)
        have hP : va_P D vwCl (wd_X2_gather cyI cyJ cyZ a_H a_H_sets a_H_papers a_H_worths a_this a_common a_anyone a_papers a_due a_mostHad a_sets v_H_count v_count v_breachSize v_breachGroup v_H_papers v_H_sets (upd v_anyone y4.toNatClampNeg ((v_anyone (y4 &&& (y4 - (1 : Int32))).toNatClampNeg) ||| (v_H_sets q7.toNatClampNeg))) (upd v_common y4.toNatClampNeg ((v_common (y4 &&& (y4 - (1 : Int32))).toNatClampNeg) &&& (v_H_sets q7.toNatClampNeg))) (upd v_due y4.toNatClampNeg (if (0 : Int32) < q19 then (0 : Int32) else q19)) (upd v_papers y4.toNatClampNeg ((v_papers (y4 &&& (y4 - (1 : Int32))).toNatClampNeg) + (v_H_papers q7.toNatClampNeg))) v_sets) H := hP
        have hD : va_D A (wd_X2_gather cyI cyJ cyZ a_H a_H_sets a_H_papers a_H_worths a_this a_common a_anyone a_papers a_due a_mostHad a_sets v_H_count v_count v_breachSize v_breachGroup v_H_papers v_H_sets (upd v_anyone y4.toNatClampNeg ((v_anyone (y4 &&& (y4 - (1 : Int32))).toNatClampNeg) ||| (v_H_sets q7.toNatClampNeg))) (upd v_common y4.toNatClampNeg ((v_common (y4 &&& (y4 - (1 : Int32))).toNatClampNeg) &&& (v_H_sets q7.toNatClampNeg))) (upd v_due y4.toNatClampNeg (if (0 : Int32) < q19 then (0 : Int32) else q19)) (upd v_papers y4.toNatClampNeg ((v_papers (y4 &&& (y4 - (1 : Int32))).toNatClampNeg) + (v_H_papers q7.toNatClampNeg))) v_sets) := hD
        refine lv_iinc (v := (y4 + (1 : Int32))) (lv' := [(4, .int (y4 + (1 : Int32))), (7, .int (0 : Int32)), (6, .int q7), (5, .int (y4 &&& (y4 - (1 : Int32)))), (0, .ref a_this), (1, .ref a_H), (2, .int y2), (3, .int y3)]) hx hb dX2_gather_196 hl (k := 7) rfl rfl (by decide) rfl (fun ls hl => ?_)
        refine lv_goto (tgt := 62) hx hb dX2_gather_199 (by decide) ?_
        exact ih (y4 + (1 : Int32)) (upd v_anyone y4.toNatClampNeg ((v_anyone (y4 &&& (y4 - (1 : Int32))).toNatClampNeg) ||| (v_H_sets q7.toNatClampNeg))) (upd v_common y4.toNatClampNeg ((v_common (y4 &&& (y4 - (1 : Int32))).toNatClampNeg) &&& (v_H_sets q7.toNatClampNeg))) (upd v_due y4.toNatClampNeg (if (0 : Int32) < q19 then (0 : Int32) else q19)) (upd v_papers y4.toNatClampNeg ((v_papers (y4 &&& (y4 - (1 : Int32))).toNatClampNeg) + (v_H_papers q7.toNatClampNeg))) _ _ _ _ hf K hP hD hS (lv_sub hl [4, 5, 6, 7, 0] rfl)
      · have hf := ob_neg c17 hf
        refine lv_aload_n hx hb dX2_gather_157 rfl (lv_at hl 2 rfl) ?_
        refine va_get (D := D) (ci := 1) (v := .ref a_papers) (C := RX2) (T := TX2) (N := 9) hx hb hts iX2 hown hK hP 1 rfl rfl 2 (by decide) fl18 (fun _ h9 => h9) rfl dX2_gather_158 ?_
        refine lv_iload hx hb dX2_gather_161 (lv_at hl 6 rfl) ?_
        obtain ⟨h21, hf⟩ := og_in hf
        refine va_iald hx hb hK hP 7 0 rfl rfl h21 dX2_gather_163 ?_
        refine lv_iload_n hx hb dX2_gather_164 rfl (lv_at hl 4 rfl) ?_
        refine lv_imul hx hb dX2_gather_165 ?_
        refine lv_iload_n hx hb dX2_gather_166 rfl (lv_at hl 5 rfl) ?_
        obtain ⟨z22, hf⟩ := og_nz hf
        refine lv_idiv hx hb dX2_gather_167 z22 ?_
        refine lv_goto (tgt := 172) hx hb dX2_gather_168 (by decide) ?_
        obtain ⟨b23, eb23, hf⟩ := ob_letE hf
        refine lv_topi (fun t9 e9 => ?_)
        obtain rfl : b23 = t9 := eb23.trans e9.symm
        refine lv_istore (lv' := [(7, .int b23), (6, .int q7), (5, .int (y4 &&& (y4 - (1 : Int32)))), (0, .ref a_this), (1, .ref a_H), (2, .int y2), (3, .int y3), (4, .int y4)]) hx hb dX2_gather_172 hl (by decide) rfl (fun ls hl => ?_)
        refine lv_aload_n hx hb dX2_gather_174 rfl (lv_at hl 3 rfl) ?_
        refine va_get (D := D) (ci := 1) (v := .ref a_due) (C := RX2) (T := TX2) (N := 9) hx hb hts iX2 hown hK hP 1 rfl rfl 3 (by decide) fl21 (fun _ h9 => h9) rfl dX2_gather_175 ?_
        refine lv_iload hx hb dX2_gather_178 (lv_at hl 7 rfl) ?_
        refine lv_aload_n hx hb dX2_gather_180 rfl (lv_at hl 3 rfl) ?_
        refine va_get (D := D) (ci := 1) (v := .ref a_common) (C := RX2) (T := TX2) (N := 9) hx hb hts iX2 hown hK hP 1 rfl rfl 0 (by decide) fl9 (fun _ h9 => h9) rfl dX2_gather_181 ?_
        refine lv_iload hx hb dX2_gather_184 (lv_at hl 7 rfl) ?_
        obtain ⟨h24, hf⟩ := og_in hf
        refine va_iald hx hb hK hP 5 0 rfl rfl h24 dX2_gather_186 ?_
        obtain ⟨q25, hq25, hf⟩ := ob_bind hf
        refine k_Si (wo := (wd_X2_gather cyI cyJ cyZ a_H a_H_sets a_H_papers a_H_worths a_this a_common a_anyone a_papers a_due a_mostHad a_sets v_H_count v_count v_breachSize v_breachGroup v_H_papers v_H_sets (upd v_anyone y4.toNatClampNeg ((v_anyone (y4 &&& (y4 - (1 : Int32))).toNatClampNeg) ||| (v_H_sets q7.toNatClampNeg))) (upd v_common y4.toNatClampNeg ((v_common (y4 &&& (y4 - (1 : Int32))).toNatClampNeg) &&& (v_H_sets q7.toNatClampNeg))) v_due (upd v_papers y4.toNatClampNeg ((v_papers (y4 &&& (y4 - (1 : Int32))).toNatClampNeg) + (v_H_papers q7.toNatClampNeg))) v_sets)) (As := [.int ((upd v_common y4.toNatClampNeg ((v_common (y4 &&& (y4 - (1 : Int32))).toNatClampNeg) &&& (v_H_sets q7.toNatClampNeg))) y4.toNatClampNeg)]) (rest := [.int y4, .ref a_due]) C (c_J6_bitCount_0f7a4 l D cyI cyJ cyZ   ((upd v_common y4.toNatClampNeg ((v_common (y4 &&& (y4 - (1 : Int32))).toNatClampNeg) &&& (v_H_sets q7.toNatClampNeg))) y4.toNatClampNeg) q25 hq25) cw53 hP hD hS [] [0, 1, 2, 3, 4, 5, 6, 7, 8] [0, 1, 2, 3, 4, 5, 6, 7, 8] rfl rfl rfl (by decide) rfl rfl hl.1 (Nat.le_of_ble_eq_true rfl) dX2_gather_187 ⟨Nat.zero_le _, Nat.zero_le _⟩ (fun H locs hP hD hS => ?_)
        refine lv_iload hx hb dX2_gather_190 (lv_at hl 0 rfl) ?_
        refine va_mmin hx hb (by rw [hml]; exact hl.1.symm) hown lk40 ls40 li40 lc40 (Nat.le_of_ble_eq_true rfl) (Nat.le_of_ble_eq_true rfl) (Nat.zero_le _) (Nat.zero_le _) dX2_gather_192 ?_
        obtain ⟨h26, hf⟩ := og_in hf
        refine va_iast hx hb hK hP hD hS 6 0 rfl rfl h26 dX2_gather_195 (fun H locs hP hD hS => ?_)
        have hP : va_P D vwCl (wd_X2_gather cyI cyJ cyZ a_H a_H_sets a_H_papers a_H_worths a_this a_common a_anyone a_papers a_due a_mostHad a_sets v_H_count v_count v_breachSize v_breachGroup v_H_papers v_H_sets (upd v_anyone y4.toNatClampNeg ((v_anyone (y4 &&& (y4 - (1 : Int32))).toNatClampNeg) ||| (v_H_sets q7.toNatClampNeg))) (upd v_common y4.toNatClampNeg ((v_common (y4 &&& (y4 - (1 : Int32))).toNatClampNeg) &&& (v_H_sets q7.toNatClampNeg))) (upd v_due y4.toNatClampNeg (if b23 < q25 then b23 else q25)) (upd v_papers y4.toNatClampNeg ((v_papers (y4 &&& (y4 - (1 : Int32))).toNatClampNeg) + (v_H_papers q7.toNatClampNeg))) v_sets) H := hP
        have hD : va_D A (wd_X2_gather cyI cyJ cyZ a_H a_H_sets a_H_papers a_H_worths a_this a_common a_anyone a_papers a_due a_mostHad a_sets v_H_count v_count v_breachSize v_breachGroup v_H_papers v_H_sets (upd v_anyone y4.toNatClampNeg ((v_anyone (y4 &&& (y4 - (1 : Int32))).toNatClampNeg) ||| (v_H_sets q7.toNatClampNeg))) (upd v_common y4.toNatClampNeg ((v_common (y4 &&& (y4 - (1 : Int32))).toNatClampNeg) &&& (v_H_sets q7.toNatClampNeg))) (upd v_due y4.toNatClampNeg (if b23 < q25 then b23 else q25)) (upd v_papers y4.toNatClampNeg ((v_papers (y4 &&& (y4 - (1 : Int32))).toNatClampNeg) + (v_H_papers q7.toNatClampNeg))) v_sets) := hD
        refine lv_iinc (v := (y4 + (1 : Int32))) (lv' := [(4, .int (y4 + (1 : Int32))), (7, .int b23), (6, .int q7), (5, .int (y4 &&& (y4 - (1 : Int32)))), (0, .ref a_this), (1, .ref a_H), (2, .int y2), (3, .int y3)]) hx hb dX2_gather_196 hl (k := 7) rfl rfl (by decide) rfl (fun ls hl => ?_)
        refine lv_goto (tgt := 62) hx hb dX2_gather_199 (by decide) ?_
        exact ih (y4 + (1 : Int32)) (upd v_anyone y4.toNatClampNeg ((v_anyone (y4 &&& (y4 - (1 : Int32))).toNatClampNeg) ||| (v_H_sets q7.toNatClampNeg))) (upd v_common y4.toNatClampNeg ((v_common (y4 &&& (y4 - (1 : Int32))).toNatClampNeg) &&& (v_H_sets q7.toNatClampNeg))) (upd v_due y4.toNatClampNeg (if b23 < q25 then b23 else q25)) (upd v_papers y4.toNatClampNeg ((v_papers (y4 &&& (y4 - (1 : Int32))).toNatClampNeg) + (v_H_papers q7.toNatClampNeg))) _ _ _ _ hf K hP hD hS (lv_sub hl [4, 5, 6, 7, 0] rfl)
set_option maxHeartbeats 4000000 in
set_option maxRecDepth 100000 in
theorem c_X2_gather (l : Launch) (D : va_G) (cyI cyJ cyZ : ClassId) (a_H a_H_sets a_H_papers a_H_worths a_this a_common a_anyone a_papers a_due a_mostHad a_sets : Nat) (v_H_count : Int32) (v_count : Int32) (v_breachSize : Int32) (v_breachGroup : Int32) (v_H_papers : Nat → Int32) (v_H_sets : Nat → Int32) (v_anyone : Nat → Int32) (v_common : Nat → Int32) (v_due : Nat → Int32) (v_papers : Nat → Int32) (v_sets : Nat → Int32) (x2 : Int32) (q : Int32 × (Nat → Int32) × (Nat → Int32) × (Nat → Int32) × (Nat → Int32) × (Nat → Int32)) (hf : f_X2_gather x2 v_H_count v_count v_H_papers v_H_sets v_anyone v_common v_due v_papers v_sets = some q) : kMv l yX2_gather wsX2_gather rm_X2_gather D (kTy cyI cyJ cyZ) [.ref a_this, .ref a_H, .int x2] (wd_X2_gather cyI cyJ cyZ a_H a_H_sets a_H_papers a_H_worths a_this a_common a_anyone a_papers a_due a_mostHad a_sets v_H_count v_count v_breachSize v_breachGroup v_H_papers v_H_sets v_anyone v_common v_due v_papers v_sets) (wd_X2_gather cyI cyJ cyZ a_H a_H_sets a_H_papers a_H_worths a_this a_common a_anyone a_papers a_due a_mostHad a_sets v_H_count q.1 v_breachSize v_breachGroup v_H_papers v_H_sets q.2.1 q.2.2.1 q.2.2.2.1 q.2.2.2.2.1 q.2.2.2.2.2) := by
  refine kMv_of (cc := cX2_gather) (nL := 8) (own := RX2) (by decide) rfl rfl (Nat.le_of_ble_eq_true rfl) ?_
  intro p e s m below meth c A Q ls C hret hP hD hS hl
  have hl : lv_has ls 8 [(0, .ref a_this), (1, .ref a_H), (2, .int x2)] := hl
  unfold f_X2_gather at hf
  obtain ⟨hx, hb, hml, hown, hts, hK, hA⟩ := id C
  have iX2 : ∀ w ∈ u_ws RX2 TX2 9, w ∈ wsX2_gather := by decide +kernel
  have iX3 : ∀ w ∈ u_ws RX3 TX3 4, w ∈ wsX2_gather := by decide +kernel
  have fl9 := hts (.fieldLink RX2 9 "FairSeats$Groups" "common" "[I") (by decide +kernel)
  have fl36 := hts (.fieldLink RX2 36 "FairSeats$Heaps" "count" "I") (by decide +kernel)
  have fl46 := hts (.fieldLink RX2 46 "FairSeats$Groups" "count" "I") (by decide +kernel)
  have lk40 := hts (.methodLink RX2 40 Lib.Math.min.name) (by decide +kernel)
  have ls40 := hts (.static Lib.Math.min.name) (by decide +kernel)
  have li40 := hts (.initialized "java/lang/Math") (by decide +kernel)
  have lc40 := hts (.code Lib.Math.min.name Lib.Math.min.code 2 (some .int)) (by decide +kernel)
  have cw30 := cwV (R := rm_X2_gather) (rm := rm_X3_total) 0 hts gX2_gather_X3_total rfl rfl rfl (by decide +kernel) ⟨Nat.le_of_ble_eq_true rfl, Nat.le_of_ble_eq_true rfl⟩
  refine lv_aload_n hx hb dX2_gather_0 rfl (lv_at hl 1 rfl) ?_
  obtain ⟨q1, hq1, hf⟩ := ob_bind hf
  refine k_Vi (wo := (wd_X2_gather cyI cyJ cyZ a_H a_H_sets a_H_papers a_H_worths a_this a_common a_anyone a_papers a_due a_mostHad a_sets v_H_count v_count v_breachSize v_breachGroup v_H_papers v_H_sets v_anyone v_common v_due v_papers v_sets)) (As := []) (rest := []) C (c_X3_total l D cyI cyJ cyZ a_H a_H_sets a_H_papers a_H_worths v_H_count v_H_papers  q1 hq1) cw30 hP hD hS [0, 2] [1, 3, 4, 5, 6, 7, 8] [7, 0, 8, 1, 2, 3, 4, 5, 6] rfl rfl rfl (by decide) 0 (ci := 2) rfl rfl rfl rfl rfl hl.1 (Nat.le_of_ble_eq_true rfl) dX2_gather_1 ⟨Nat.zero_le _, Nat.zero_le _⟩ (fun H locs hP hD hS => ?_)
  refine lv_istore_n (lv' := [(3, .int q1), (0, .ref a_this), (1, .ref a_H), (2, .int x2)]) hx hb dX2_gather_4 rfl hl (by decide) rfl (fun ls hl => ?_)
  refine lv_aload_n hx hb dX2_gather_5 rfl (lv_at hl 1 rfl) ?_
  refine lv_iconst (v := (1 : Int32)) hx hb dX2_gather_6 (by decide) ?_
  refine lv_aload_n hx hb dX2_gather_7 rfl (lv_at hl 2 rfl) ?_
  refine va_get (D := D) (ci := 2) (v := .int v_H_count) (C := RX3) (T := TX3) (N := 4) hx hb hts iX3 hown hK hP 0 rfl rfl 3 (by decide) fl36 (fun _ h9 => h9) rfl dX2_gather_8 ?_
  refine lv_bipush (v := (6 : Int32)) hx hb dX2_gather_11 (by decide) ?_
  refine va_mmin hx hb (by rw [hml]; exact hl.1.symm) hown lk40 ls40 li40 lc40 (Nat.le_of_ble_eq_true rfl) (Nat.le_of_ble_eq_true rfl) (Nat.zero_le _) (Nat.zero_le _) dX2_gather_13 ?_
  refine lv_ishl hx hb dX2_gather_16 ?_
  refine va_put (D := D) (ci := 1) (v := .int ((1 : Int32) <<< ((if (6 : Int32) < v_H_count then (6 : Int32) else v_H_count) &&& 31))) (ty := .int) (C := RX2) (T := TX2) (N := 9) hx hb hts iX2 tyX2 tyX2_ok nmX2 hown hK hP hD hS 1 rfl rfl 6 (by decide) fl46 (fun _ h9 => h9) rfl (by decide +kernel) rfl rfl (Nat.le_of_ble_eq_true rfl) dX2_gather_17 (fun H locs hP hD hS => ?_)
  have hP : va_P D vwCl (wd_X2_gather cyI cyJ cyZ a_H a_H_sets a_H_papers a_H_worths a_this a_common a_anyone a_papers a_due a_mostHad a_sets v_H_count ((1 : Int32) <<< ((if (6 : Int32) < v_H_count then (6 : Int32) else v_H_count) &&& 31)) v_breachSize v_breachGroup v_H_papers v_H_sets v_anyone v_common v_due v_papers v_sets) H := hP
  have hD : va_D A (wd_X2_gather cyI cyJ cyZ a_H a_H_sets a_H_papers a_H_worths a_this a_common a_anyone a_papers a_due a_mostHad a_sets v_H_count ((1 : Int32) <<< ((if (6 : Int32) < v_H_count then (6 : Int32) else v_H_count) &&& 31)) v_breachSize v_breachGroup v_H_papers v_H_sets v_anyone v_common v_due v_papers v_sets) := hD
  refine lv_aload_n hx hb dX2_gather_20 rfl (lv_at hl 1 rfl) ?_
  refine va_get (D := D) (ci := 1) (v := .ref a_common) (C := RX2) (T := TX2) (N := 9) hx hb hts iX2 hown hK hP 1 rfl rfl 0 (by decide) fl9 (fun _ h9 => h9) rfl dX2_gather_21 ?_
  refine lv_iconst (v := (0 : Int32)) hx hb dX2_gather_24 (by decide) ?_
  refine lv_sipush (v := (255 : Int32)) hx hb dX2_gather_25 (by decide) ?_
  refine va_iast hx hb hK hP hD hS 5 0 rfl rfl (ob_in_iff.mp rfl) dX2_gather_28 (fun H locs hP hD hS => ?_)
  have hP : va_P D vwCl (wd_X2_gather cyI cyJ cyZ a_H a_H_sets a_H_papers a_H_worths a_this a_common a_anyone a_papers a_due a_mostHad a_sets v_H_count ((1 : Int32) <<< ((if (6 : Int32) < v_H_count then (6 : Int32) else v_H_count) &&& 31)) v_breachSize v_breachGroup v_H_papers v_H_sets v_anyone (upd v_common (0 : Int32).toNatClampNeg (255 : Int32)) v_due v_papers v_sets) H := hP
  have hD : va_D A (wd_X2_gather cyI cyJ cyZ a_H a_H_sets a_H_papers a_H_worths a_this a_common a_anyone a_papers a_due a_mostHad a_sets v_H_count ((1 : Int32) <<< ((if (6 : Int32) < v_H_count then (6 : Int32) else v_H_count) &&& 31)) v_breachSize v_breachGroup v_H_papers v_H_sets v_anyone (upd v_common (0 : Int32).toNatClampNeg (255 : Int32)) v_due v_papers v_sets) := hD
  refine lv_iconst (v := (0 : Int32)) hx hb dX2_gather_29 (by decide) ?_
  refine lv_istore (lv' := [(4, .int (0 : Int32)), (3, .int q1), (0, .ref a_this), (1, .ref a_H), (2, .int x2)]) hx hb dX2_gather_30 hl (by decide) rfl (fun ls hl => ?_)
  obtain ⟨q5, hq5, hf⟩ := ob_bind hf
  refine wl_X2_gather_32 C FU (0 : Int32) v_sets _ _ _ _ hq5 (fun H locs ls hP hD hS hl => ?_) hP hD hS (lv_sub hl [2, 3, 4, 1, 0] rfl)
  refine lv_iconst (v := (1 : Int32)) hx hb dX2_gather_59 (by decide) ?_
  refine lv_istore (lv' := [(4, .int (1 : Int32)), (0, .ref a_this), (1, .ref a_H), (2, .int x2), (3, .int q1)]) hx hb dX2_gather_60 hl (by decide) rfl (fun ls hl => ?_)
  obtain ⟨q27, hq27, hf⟩ := ob_bind hf
  refine wl_X2_gather_62 C FU (1 : Int32) v_anyone (upd v_common (0 : Int32).toNatClampNeg (255 : Int32)) v_due v_papers _ _ _ _ hq27 (fun H locs ls hP hD hS hl => ?_) hP hD hS (lv_sub hl [1, 2, 3, 4, 0] rfl)
  obtain rfl := Option.some.inj hf
  exact hret _ _ _ _ dX2_gather_202 hP hD hS
abbrev rm_X2_countMostHad : Room := { frames := 2, cells := 0, slots := 0, locals := 40 }
abbrev wd_X2_countMostHad (cyI cyJ cyZ : ClassId) (a_this a_common a_anyone a_papers a_due a_mostHad a_sets : Nat) (v_count : Int32) (v_breachSize : Int32) (v_breachGroup : Int32) (v_mostHad : Nat → Int32) (v_sets : Nat → Int32) : va_W := [(a_this, .inr (1, [.ref a_common, .ref a_anyone, .ref a_papers, .ref a_due, .ref a_mostHad, .ref a_sets, .int v_count, .int v_breachSize, .int v_breachGroup])), (a_mostHad, .inl (cyI, 64, .inl v_mostHad)), (a_sets, .inl (cyI, 6, .inl v_sets))]
def lp_X2_countMostHad_2 (y1 : Int32) (v_count : Int32) (v_sets : Nat → Int32) : Nat → Int32 → (Nat → Int32) → Option ((Nat → Int32))
  | 0, _, _ => none
  | n + 1, y2, v_mostHad => (if v_count ≤ y2 then some v_mostHad else (f_X2_lowestHeap y2).bind (fun q2 => (if ob_in q2 6 = true then (f_J6_bitCount_0f7a4 ((v_sets q2.toNatClampNeg) &&& y1)).bind (fun q4 => (if ob_in (y2 &&& (y2 - (1 : Int32))) 64 = true then (if ob_in y2 64 = true then lp_X2_countMostHad_2 y1 v_count v_sets n (y2 + (1 : Int32)) (upd v_mostHad y2.toNatClampNeg (if (v_mostHad (y2 &&& (y2 - (1 : Int32))).toNatClampNeg) < q4 then q4 else (v_mostHad (y2 &&& (y2 - (1 : Int32))).toNatClampNeg))) else none) else none)) else none)))
def f_X2_countMostHad (x1 : Int32) (v_count : Int32) (v_mostHad : Nat → Int32) (v_sets : Nat → Int32) : Option ((Nat → Int32)) := (lp_X2_countMostHad_2 x1 v_count v_sets FU (1 : Int32) v_mostHad).bind (fun q7 => some q7)
set_option maxHeartbeats 4000000 in
set_option maxRecDepth 100000 in
theorem wl_X2_countMostHad_2 {p : Program} {l : Launch} {e : Env} {s : State} {m : MethodId} {args : Array Value} {below : List Frame} {meth : Method} {c : Code} {A : Nat → Prop} {Q : State → Prop} {D : va_G} {cyI cyJ cyZ : ClassId} {a_this a_common a_anyone a_papers a_due a_mostHad a_sets : Nat} {y1 : Int32} {v_count : Int32} {v_breachSize : Int32} {v_breachGroup : Int32} {v_sets : Nat → Int32} (C : kC p s m args c cX2_countMostHad 4 RX2 wsX2_countMostHad D (kTy cyI cyJ cyZ) A) :
    ∀ (n : Nat) (y2 : Int32) (v_mostHad : Nat → Int32) (q : (Nat → Int32)) (H : Heap) (locs : List Loc) (ls : Array Slot), lp_X2_countMostHad_2 y1 v_count v_sets n y2 v_mostHad = some q → (∀ (H : Heap) (locs : List Loc) (ls : Array Slot), va_P D vwCl (wd_X2_countMostHad cyI cyJ cyZ a_this a_common a_anyone a_papers a_due a_mostHad a_sets v_count v_breachSize v_breachGroup q v_sets) H → va_D A (wd_X2_countMostHad cyI cyJ cyZ a_this a_common a_anyone a_papers a_due a_mostHad a_sets v_count v_breachSize v_breachGroup q v_sets) → va_S A s.heap H locs → lv_has ls 4 [] → W p l e rm_X2_countMostHad s m args below meth c H locs 0 0 Q (F0 m 51 ls [])) → va_P D vwCl (wd_X2_countMostHad cyI cyJ cyZ a_this a_common a_anyone a_papers a_due a_mostHad a_sets v_count v_breachSize v_breachGroup v_mostHad v_sets) H → va_D A (wd_X2_countMostHad cyI cyJ cyZ a_this a_common a_anyone a_papers a_due a_mostHad a_sets v_count v_breachSize v_breachGroup v_mostHad v_sets) → va_S A s.heap H locs → lv_has ls 4 [(0, .ref a_this), (1, .int y1), (2, .int y2)] → W p l e rm_X2_countMostHad s m args below meth c H locs 0 0 Q (F0 m 2 ls []) := by
  obtain ⟨hx, hb, hml, hown, hts, hK, hA⟩ := id C
  have iX2 : ∀ w ∈ u_ws RX2 TX2 9, w ∈ wsX2_countMostHad := by decide +kernel
  have fl24 := hts (.fieldLink RX2 24 "FairSeats$Groups" "mostHad" "[I") (by decide +kernel)
  have fl27 := hts (.fieldLink RX2 27 "FairSeats$Groups" "sets" "[I") (by decide +kernel)
  have fl46 := hts (.fieldLink RX2 46 "FairSeats$Groups" "count" "I") (by decide +kernel)
  have lk68 := hts (.methodLink RX2 68 Lib.Math.max.name) (by decide +kernel)
  have ls68 := hts (.static Lib.Math.max.name) (by decide +kernel)
  have li68 := hts (.initialized "java/lang/Math") (by decide +kernel)
  have lc68 := hts (.code Lib.Math.max.name Lib.Math.max.code 2 (some .int)) (by decide +kernel)
  have cw48 := va_cwS (R := rm_X2_countMostHad) (rm := rm_X2_lowestHeap) 1 hts gX2_countMostHad_X2_lowestHeap rfl rfl rfl (by decide +kernel) ⟨Nat.le_of_ble_eq_true rfl, Nat.le_of_ble_eq_true rfl⟩
  have cw53 := va_cwS (R := rm_X2_countMostHad) (rm := rm_J6_bitCount_0f7a4) 1 hts gX2_countMostHad_J6_bitCount_0f7a4 rfl rfl rfl (by decide +kernel) ⟨Nat.le_of_ble_eq_true rfl, Nat.le_of_ble_eq_true rfl⟩
  intro n
  induction n with
  | zero =>
    intro y2 v_mostHad q H locs ls hf K hP hD hS hl
    rw [lp_X2_countMostHad_2] at hf
    cases hf
  | succ n ih =>
    intro y2 v_mostHad q H locs ls hf K hP hD hS hl
    rw [lp_X2_countMostHad_2] at hf
    refine lv_iload_n hx hb dX2_countMostHad_2 rfl (lv_at hl 2 rfl) ?_
    refine lv_aload_n hx hb dX2_countMostHad_3 rfl (lv_at hl 0 rfl) ?_
    refine va_get (D := D) (ci := 1) (v := .int v_count) (C := RX2) (T := TX2) (N := 9) hx hb hts iX2 hown hK hP 0 rfl rfl 6 (by decide) fl46 (fun _ h9 => h9) rfl dX2_countMostHad_4 ?_
    refine lv_icmp_ge (tgt := 51) hx hb dX2_countMostHad_7 (by decide) (fun c1 => ?_) (fun c1 => ?_)
    · have hf := ob_pos c1 hf
      obtain rfl := Option.some.inj hf
      exact K _ _ _ hP hD hS (lv_sub hl [] rfl)
    · have hf := ob_neg c1 hf
      refine lv_aload_n hx hb dX2_countMostHad_10 rfl (lv_at hl 0 rfl) ?_
      refine va_get (D := D) (ci := 1) (v := .ref a_sets) (C := RX2) (T := TX2) (N := 9) hx hb hts iX2 hown hK hP 0 rfl rfl 5 (by decide) fl27 (fun _ h9 => h9) rfl dX2_countMostHad_11 ?_
      refine lv_iload_n hx hb dX2_countMostHad_14 rfl (lv_at hl 2 rfl) ?_
      obtain ⟨q2, hq2, hf⟩ := ob_bind hf
      refine k_Si (wo := (wd_X2_countMostHad cyI cyJ cyZ a_this a_common a_anyone a_papers a_due a_mostHad a_sets v_count v_breachSize v_breachGroup v_mostHad v_sets)) (As := [.int y2]) (rest := [.ref a_sets]) C (c_X2_lowestHeap l D cyI cyJ cyZ   y2 q2 hq2) cw48 hP hD hS [] [0, 1, 2] [0, 1, 2] rfl rfl rfl (by decide) rfl rfl hl.1 (Nat.le_of_ble_eq_true rfl) dX2_countMostHad_15 ⟨Nat.zero_le _, Nat.zero_le _⟩ (fun H locs hP hD hS => ?_)
      obtain ⟨h3, hf⟩ := og_in hf
      refine va_iald hx hb hK hP 2 0 rfl rfl h3 dX2_countMostHad_18 ?_
      refine lv_iload_n hx hb dX2_countMostHad_19 rfl (lv_at hl 1 rfl) ?_
      refine lv_iand hx hb dX2_countMostHad_20 ?_
      obtain ⟨q4, hq4, hf⟩ := ob_bind hf
      refine k_Si (wo := (wd_X2_countMostHad cyI cyJ cyZ a_this a_common a_anyone a_papers a_due a_mostHad a_sets v_count v_breachSize v_breachGroup v_mostHad v_sets)) (As := [.int ((v_sets q2.toNatClampNeg) &&& y1)]) (rest := []) C (c_J6_bitCount_0f7a4 l D cyI cyJ cyZ   ((v_sets q2.toNatClampNeg) &&& y1) q4 hq4) cw53 hP hD hS [] [0, 1, 2] [0, 1, 2] rfl rfl rfl (by decide) rfl rfl hl.1 (Nat.le_of_ble_eq_true rfl) dX2_countMostHad_21 ⟨Nat.zero_le _, Nat.zero_le _⟩ (fun H locs hP hD hS => ?_)
      refine lv_istore_n (lv' := [(3, .int q4), (0, .ref a_this), (1, .int y1), (2, .int y2)]) hx hb dX2_countMostHad_24 rfl hl (by decide) rfl (fun ls hl => ?_)
      refine lv_aload_n hx hb dX2_countMostHad_25 rfl (lv_at hl 1 rfl) ?_
      refine va_get (D := D) (ci := 1) (v := .ref a_mostHad) (C := RX2) (T := TX2) (N := 9) hx hb hts iX2 hown hK hP 0 rfl rfl 4 (by decide) fl24 (fun _ h9 => h9) rfl dX2_countMostHad_26 ?_
      refine lv_iload_n hx hb dX2_countMostHad_29 rfl (lv_at hl 3 rfl) ?_
      refine lv_aload_n hx hb dX2_countMostHad_30 rfl (lv_at hl 1 rfl) ?_
      refine va_get (D := D) (ci := 1) (v := .ref a_mostHad) (C := RX2) (T := TX2) (N := 9) hx hb hts iX2 hown hK hP 0 rfl rfl 4 (by decide) fl24 (fun _ h9 => h9) rfl dX2_countMostHad_31 ?_
      refine lv_iload_n hx hb dX2_countMostHad_34 rfl (lv_at hl 3 rfl) ?_
      refine lv_iload_n hx hb dX2_countMostHad_35 rfl (lv_at hl 3 rfl) ?_
      refine lv_iconst (v := (1 : Int32)) hx hb dX2_countMostHad_36 (by decide) ?_
      refine lv_isub hx hb dX2_countMostHad_37 ?_
      refine lv_iand hx hb dX2_countMostHad_38 ?_
      obtain ⟨h5, hf⟩ := og_in hf
      refine va_iald hx hb hK hP 1 0 rfl rfl h5 dX2_countMostHad_39 ?_
      refine lv_iload_n hx hb dX2_countMostHad_40 rfl (lv_at hl 0 rfl) ?_
      refine va_mmax hx hb (by rw [hml]; exact hl.1.symm) hown lk68 ls68 li68 lc68 (Nat.le_of_ble_eq_true rfl) (Nat.le_of_ble_eq_true rfl) (Nat.zero_le _) (Nat.zero_le _) dX2_countMostHad_41 ?_
      obtain ⟨h6, hf⟩ := og_in hf
      refine va_iast hx hb hK hP hD hS 1 0 rfl rfl h6 dX2_countMostHad_44 (fun H locs hP hD hS => ?_)
      have hP : va_P D vwCl (wd_X2_countMostHad cyI cyJ cyZ a_this a_common a_anyone a_papers a_due a_mostHad a_sets v_count v_breachSize v_breachGroup (upd v_mostHad y2.toNatClampNeg (if (v_mostHad (y2 &&& (y2 - (1 : Int32))).toNatClampNeg) < q4 then q4 else (v_mostHad (y2 &&& (y2 - (1 : Int32))).toNatClampNeg))) v_sets) H := hP
      have hD : va_D A (wd_X2_countMostHad cyI cyJ cyZ a_this a_common a_anyone a_papers a_due a_mostHad a_sets v_count v_breachSize v_breachGroup (upd v_mostHad y2.toNatClampNeg (if (v_mostHad (y2 &&& (y2 - (1 : Int32))).toNatClampNeg) < q4 then q4 else (v_mostHad (y2 &&& (y2 - (1 : Int32))).toNatClampNeg))) v_sets) := hD
      refine lv_iinc (v := (y2 + (1 : Int32))) (lv' := [(2, .int (y2 + (1 : Int32))), (3, .int q4), (0, .ref a_this), (1, .int y1)]) hx hb dX2_countMostHad_45 hl (k := 3) rfl rfl (by decide) rfl (fun ls hl => ?_)
      refine lv_goto (tgt := 2) hx hb dX2_countMostHad_48 (by decide) ?_
      exact ih (y2 + (1 : Int32)) (upd v_mostHad y2.toNatClampNeg (if (v_mostHad (y2 &&& (y2 - (1 : Int32))).toNatClampNeg) < q4 then q4 else (v_mostHad (y2 &&& (y2 - (1 : Int32))).toNatClampNeg))) _ _ _ _ hf K hP hD hS (lv_sub hl [2, 3, 0] rfl)
set_option maxHeartbeats 4000000 in
set_option maxRecDepth 100000 in
theorem c_X2_countMostHad (l : Launch) (D : va_G) (cyI cyJ cyZ : ClassId) (a_this a_common a_anyone a_papers a_due a_mostHad a_sets : Nat) (v_count : Int32) (v_breachSize : Int32) (v_breachGroup : Int32) (v_mostHad : Nat → Int32) (v_sets : Nat → Int32) (x1 : Int32) (q : (Nat → Int32)) (hf : f_X2_countMostHad x1 v_count v_mostHad v_sets = some q) : kMv l yX2_countMostHad wsX2_countMostHad rm_X2_countMostHad D (kTy cyI cyJ cyZ) [.ref a_this, .int x1] (wd_X2_countMostHad cyI cyJ cyZ a_this a_common a_anyone a_papers a_due a_mostHad a_sets v_count v_breachSize v_breachGroup v_mostHad v_sets) (wd_X2_countMostHad cyI cyJ cyZ a_this a_common a_anyone a_papers a_due a_mostHad a_sets v_count v_breachSize v_breachGroup q v_sets) := by
  refine kMv_of (cc := cX2_countMostHad) (nL := 4) (own := RX2) (by decide) rfl rfl (Nat.le_of_ble_eq_true rfl) ?_
  intro p e s m below meth c A Q ls C hret hP hD hS hl
  have hl : lv_has ls 4 [(0, .ref a_this), (1, .int x1)] := hl
  unfold f_X2_countMostHad at hf
  obtain ⟨hx, hb, hml, hown, hts, hK, hA⟩ := id C
  refine lv_iconst (v := (1 : Int32)) hx hb dX2_countMostHad_0 (by decide) ?_
  refine lv_istore_n (lv' := [(2, .int (1 : Int32)), (0, .ref a_this), (1, .int x1)]) hx hb dX2_countMostHad_1 rfl hl (by decide) rfl (fun ls hl => ?_)
  obtain ⟨q7, hq7, hf⟩ := ob_bind hf
  refine wl_X2_countMostHad_2 C FU (1 : Int32) v_mostHad _ _ _ _ hq7 (fun H locs ls hP hD hS hl => ?_) hP hD hS (lv_sub hl [1, 2, 0] rfl)
  obtain rfl := Option.some.inj hf
  exact hret _ _ _ _ dX2_countMostHad_51 hP hD hS
abbrev rm_X2_seekBreach : Room := { frames := 3, cells := 0, slots := 0, locals := 63 }
abbrev wd_X2_seekBreach (cyI cyJ cyZ : ClassId) (a_this a_common a_anyone a_papers a_due a_mostHad a_sets : Nat) (v_count : Int32) (v_breachSize : Int32) (v_breachGroup : Int32) (v_anyone : Nat → Int32) (v_due : Nat → Int32) (v_mostHad : Nat → Int32) (v_sets : Nat → Int32) : va_W := [(a_this, .inr (1, [.ref a_common, .ref a_anyone, .ref a_papers, .ref a_due, .ref a_mostHad, .ref a_sets, .int v_count, .int v_breachSize, .int v_breachGroup])), (a_anyone, .inl (cyI, 64, .inl v_anyone)), (a_due, .inl (cyI, 64, .inl v_due)), (a_mostHad, .inl (cyI, 64, .inl v_mostHad)), (a_sets, .inl (cyI, 6, .inl v_sets))]
def lp_X2_seekBreach_24 (y1 : Int32) (y2 : Int32) (v_count : Int32) (v_anyone : Nat → Int32) (v_due : Nat → Int32) (v_mostHad : Nat → Int32) : Nat → Int32 → Int32 → Int32 → Option (Int32 × Int32)
  | 0, _, _, _ => none
  | n + 1, y3, v_breachSize, v_breachGroup => (if v_count ≤ y3 then some (v_breachSize, v_breachGroup) else (if y1 = (1 : Int32) then (if ob_in y3 64 = true then (f_J6_bitCount_0f7a4 ((v_anyone y3.toNatClampNeg) &&& y2)).bind (fun q24 => (if y1 = 0 then (if q24 = 0 then (if ob_in y3 64 = true then (if (v_due y3.toNatClampNeg) ≤ q24 then lp_X2_seekBreach_24 y1 y2 v_count v_anyone v_due v_mostHad n (y3 + (1 : Int32)) v_breachSize v_breachGroup else (if v_breachSize = (-6 : Int32) then lp_X2_seekBreach_24 y1 y2 v_count v_anyone v_due v_mostHad n (y3 + (1 : Int32)) (q24 + (1 : Int32)) y3 else (if v_breachSize ≤ (q24 + (1 : Int32)) then lp_X2_seekBreach_24 y1 y2 v_count v_anyone v_due v_mostHad n (y3 + (1 : Int32)) v_breachSize v_breachGroup else lp_X2_seekBreach_24 y1 y2 v_count v_anyone v_due v_mostHad n (y3 + (1 : Int32)) (q24 + (1 : Int32)) y3))) else none) else lp_X2_seekBreach_24 y1 y2 v_count v_anyone v_due v_mostHad n (y3 + (1 : Int32)) v_breachSize v_breachGroup) else (if ob_in y3 64 = true then (if (v_due y3.toNatClampNeg) ≤ q24 then lp_X2_seekBreach_24 y1 y2 v_count v_anyone v_due v_mostHad n (y3 + (1 : Int32)) v_breachSize v_breachGroup else (if v_breachSize = (-6 : Int32) then lp_X2_seekBreach_24 y1 y2 v_count v_anyone v_due v_mostHad n (y3 + (1 : Int32)) (q24 + (1 : Int32)) y3 else (if v_breachSize ≤ (q24 + (1 : Int32)) then lp_X2_seekBreach_24 y1 y2 v_count v_anyone v_due v_mostHad n (y3 + (1 : Int32)) v_breachSize v_breachGroup else lp_X2_seekBreach_24 y1 y2 v_count v_anyone v_due v_mostHad n (y3 + (1 : Int32)) (q24 + (1 : Int32)) y3))) else none))) else none) else (if ob_in y3 64 = true then (if y1 = 0 then (if (v_mostHad y3.toNatClampNeg) = 0 then (if ob_in y3 64 = true then (if (v_due y3.toNatClampNeg) ≤ (v_mostHad y3.toNatClampNeg) then lp_X2_seekBreach_24 y1 y2 v_count v_anyone v_due v_mostHad n (y3 + (1 : Int32)) v_breachSize v_breachGroup else (if v_breachSize = (-6 : Int32) then lp_X2_seekBreach_24 y1 y2 v_count v_anyone v_due v_mostHad n (y3 + (1 : Int32)) ((v_mostHad y3.toNatClampNeg) + (1 : Int32)) y3 else (if v_breachSize ≤ ((v_mostHad y3.toNatClampNeg) + (1 : Int32)) then lp_X2_seekBreach_24 y1 y2 v_count v_anyone v_due v_mostHad n (y3 + (1 : Int32)) v_breachSize v_breachGroup else lp_X2_seekBreach_24 y1 y2 v_count v_anyone v_due v_mostHad n (y3 + (1 : Int32)) ((v_mostHad y3.toNatClampNeg) + (1 : Int32)) y3))) else none) else lp_X2_seekBreach_24 y1 y2 v_count v_anyone v_due v_mostHad n (y3 + (1 : Int32)) v_breachSize v_breachGroup) else (if ob_in y3 64 = true then (if (v_due y3.toNatClampNeg) ≤ (v_mostHad y3.toNatClampNeg) then lp_X2_seekBreach_24 y1 y2 v_count v_anyone v_due v_mostHad n (y3 + (1 : Int32)) v_breachSize v_breachGroup else (if v_breachSize = (-6 : Int32) then lp_X2_seekBreach_24 y1 y2 v_count v_anyone v_due v_mostHad n (y3 + (1 : Int32)) ((v_mostHad y3.toNatClampNeg) + (1 : Int32)) y3 else (if v_breachSize ≤ ((v_mostHad y3.toNatClampNeg) + (1 : Int32)) then lp_X2_seekBreach_24 y1 y2 v_count v_anyone v_due v_mostHad n (y3 + (1 : Int32)) v_breachSize v_breachGroup else lp_X2_seekBreach_24 y1 y2 v_count v_anyone v_due v_mostHad n (y3 + (1 : Int32)) ((v_mostHad y3.toNatClampNeg) + (1 : Int32)) y3))) else none)) else none)))
def f_X2_seekBreach (x1 : Int32) (x2 : Int32) (v_count : Int32) (v_breachSize : Int32) (v_breachGroup : Int32) (v_anyone : Nat → Int32) (v_due : Nat → Int32) (v_mostHad : Nat → Int32) (v_sets : Nat → Int32) : Option (Int32 × Int32 × (Nat → Int32)) := (if x1 = (1 : Int32) then (lp_X2_seekBreach_24 x1 x2 v_count v_anyone v_due v_mostHad FU (1 : Int32) (-6 : Int32) (-6 : Int32)).bind (fun q43 => some (q43.1, q43.2, v_mostHad)) else (f_X2_countMostHad x2 v_count v_mostHad v_sets).bind (fun q44 => (lp_X2_seekBreach_24 x1 x2 v_count v_anyone v_due q44 FU (1 : Int32) (-6 : Int32) (-6 : Int32)).bind (fun q45 => some (q45.1, q45.2, q44))))
set_option maxHeartbeats 4000000 in
set_option maxRecDepth 100000 in
theorem wl_X2_seekBreach_24 {p : Program} {l : Launch} {e : Env} {s : State} {m : MethodId} {args : Array Value} {below : List Frame} {meth : Method} {c : Code} {A : Nat → Prop} {Q : State → Prop} {D : va_G} {cyI cyJ cyZ : ClassId} {a_this a_common a_anyone a_papers a_due a_mostHad a_sets : Nat} {y1 : Int32} {y2 : Int32} {v_count : Int32} {v_anyone : Nat → Int32} {v_due : Nat → Int32} {v_mostHad : Nat → Int32} {v_sets : Nat → Int32} (C : kC p s m args c cX2_seekBreach 7 RX2 wsX2_seekBreach D (kTy cyI cyJ cyZ) A) :
    ∀ (n : Nat) (y3 : Int32) (v_breachSize : Int32) (v_breachGroup : Int32) (q : Int32 × Int32) (H : Heap) (locs : List Loc) (ls : Array Slot), lp_X2_seekBreach_24 y1 y2 v_count v_anyone v_due v_mostHad n y3 v_breachSize v_breachGroup = some q → (∀ (H : Heap) (locs : List Loc) (ls : Array Slot), va_P D vwCl (wd_X2_seekBreach cyI cyJ cyZ a_this a_common a_anyone a_papers a_due a_mostHad a_sets v_count q.1 q.2 v_anyone v_due v_mostHad v_sets) H → va_D A (wd_X2_seekBreach cyI cyJ cyZ a_this a_common a_anyone a_papers a_due a_mostHad a_sets v_count q.1 q.2 v_anyone v_due v_mostHad v_sets) → va_S A s.heap H locs → lv_has ls 7 [] → W p l e rm_X2_seekBreach s m args below meth c H locs 0 0 Q (F0 m 142 ls [])) → va_P D vwCl (wd_X2_seekBreach cyI cyJ cyZ a_this a_common a_anyone a_papers a_due a_mostHad a_sets v_count v_breachSize v_breachGroup v_anyone v_due v_mostHad v_sets) H → va_D A (wd_X2_seekBreach cyI cyJ cyZ a_this a_common a_anyone a_papers a_due a_mostHad a_sets v_count v_breachSize v_breachGroup v_anyone v_due v_mostHad v_sets) → va_S A s.heap H locs → lv_has ls 7 [(0, .ref a_this), (1, .int y1), (2, .int y2), (3, .int y3)] → W p l e rm_X2_seekBreach s m args below meth c H locs 0 0 Q (F0 m 24 ls []) := by
  obtain ⟨hx, hb, hml, hown, hts, hK, hA⟩ := id C
  have iX2 : ∀ w ∈ u_ws RX2 TX2 9, w ∈ wsX2_seekBreach := by decide +kernel
  have fl15 := hts (.fieldLink RX2 15 "FairSeats$Groups" "anyone" "[I") (by decide +kernel)
  have fl21 := hts (.fieldLink RX2 21 "FairSeats$Groups" "due" "[I") (by decide +kernel)
  have fl24 := hts (.fieldLink RX2 24 "FairSeats$Groups" "mostHad" "[I") (by decide +kernel)
  have fl46 := hts (.fieldLink RX2 46 "FairSeats$Groups" "count" "I") (by decide +kernel)
  have fl58 := hts (.fieldLink RX2 58 "FairSeats$Groups" "breachSize" "I") (by decide +kernel)
  have fl61 := hts (.fieldLink RX2 61 "FairSeats$Groups" "breachGroup" "I") (by decide +kernel)
  have cw53 := va_cwS (R := rm_X2_seekBreach) (rm := rm_J6_bitCount_0f7a4) 1 hts gX2_seekBreach_J6_bitCount_0f7a4 rfl rfl rfl (by decide +kernel) ⟨Nat.le_of_ble_eq_true rfl, Nat.le_of_ble_eq_true rfl⟩
  intro n
  induction n with
  | zero =>
    intro y3 v_breachSize v_breachGroup q H locs ls hf K hP hD hS hl
    rw [lp_X2_seekBreach_24] at hf
    cases hf
  | succ n ih =>
    intro y3 v_breachSize v_breachGroup q H locs ls hf K hP hD hS hl
    rw [lp_X2_seekBreach_24] at hf
    refine lv_iload_n hx hb dX2_seekBreach_24 rfl (lv_at hl 3 rfl) ?_
    refine lv_aload_n hx hb dX2_seekBreach_25 rfl (lv_at hl 0 rfl) ?_
    refine va_get (D := D) (ci := 1) (v := .int v_count) (C := RX2) (T := TX2) (N := 9) hx hb hts iX2 hown hK hP 0 rfl rfl 6 (by decide) fl46 (fun _ h9 => h9) rfl dX2_seekBreach_26 ?_
    refine lv_icmp_ge (tgt := 142) hx hb dX2_seekBreach_29 (by decide) (fun c2 => ?_) (fun c2 => ?_)
    · have hf := ob_pos c2 hf
      obtain rfl := Option.some.inj hf
      exact K _ _ _ hP hD hS (lv_sub hl [] rfl)
    · have hf := ob_neg c2 hf
      refine lv_iload_n hx hb dX2_seekBreach_32 rfl (lv_at hl 1 rfl) ?_
      refine lv_iconst (v := (1 : Int32)) hx hb dX2_seekBreach_33 (by decide) ?_
      refine lv_icmp_ne (tgt := 51) hx hb dX2_seekBreach_34 (by decide) (fun c3 => ?_) (fun c3 => ?_)
      · have hf := ob_neg c3 hf
        refine lv_aload_n hx hb dX2_seekBreach_51 rfl (lv_at hl 0 rfl) ?_
        refine va_get (D := D) (ci := 1) (v := .ref a_mostHad) (C := RX2) (T := TX2) (N := 9) hx hb hts iX2 hown hK hP 0 rfl rfl 4 (by decide) fl24 (fun _ h9 => h9) rfl dX2_seekBreach_52 ?_
        refine lv_iload_n hx hb dX2_seekBreach_55 rfl (lv_at hl 3 rfl) ?_
        obtain ⟨h4, hf⟩ := og_in hf
        refine va_iald hx hb hK hP 3 0 rfl rfl h4 dX2_seekBreach_56 ?_
        refine lv_istore (lv' := [(4, .int (v_mostHad y3.toNatClampNeg)), (0, .ref a_this), (1, .int y1), (2, .int y2), (3, .int y3)]) hx hb dX2_seekBreach_57 hl (by decide) rfl (fun ls hl => ?_)
        refine lv_iload_n hx hb dX2_seekBreach_59 rfl (lv_at hl 2 rfl) ?_
        refine lv_if_ne (tgt := 68) hx hb dX2_seekBreach_60 (by decide) (fun c5 => ?_) (fun c5 => ?_)
        · have hf := ob_neg c5 hf
          refine lv_iconst (v := (1 : Int32)) hx hb dX2_seekBreach_68 (by decide) ?_
          refine lv_goto (tgt := 73) hx hb dX2_seekBreach_69 (by decide) ?_
          refine lv_istore (lv' := [(5, .int (1 : Int32)), (4, .int (v_mostHad y3.toNatClampNeg)), (0, .ref a_this), (1, .int y1), (2, .int y2), (3, .int y3)]) hx hb dX2_seekBreach_73 hl (by decide) rfl (fun ls hl => ?_)
          refine lv_iload hx hb dX2_seekBreach_75 (lv_at hl 0 rfl) ?_
          refine lv_if_eq (tgt := 95) hx hb dX2_seekBreach_77 (by decide) (fun c6 => ?_) (fun c6 => ?_)
          · exact absurd c6 (by decide)
          · refine lv_iload hx hb dX2_seekBreach_80 (lv_at hl 1 rfl) ?_
            refine lv_aload_n hx hb dX2_seekBreach_82 rfl (lv_at hl 2 rfl) ?_
            refine va_get (D := D) (ci := 1) (v := .ref a_due) (C := RX2) (T := TX2) (N := 9) hx hb hts iX2 hown hK hP 0 rfl rfl 3 (by decide) fl21 (fun _ h9 => h9) rfl dX2_seekBreach_83 ?_
            refine lv_iload_n hx hb dX2_seekBreach_86 rfl (lv_at hl 5 rfl) ?_
            obtain ⟨h7, hf⟩ := og_in hf
            refine va_iald hx hb hK hP 2 0 rfl rfl h7 dX2_seekBreach_87 ?_
            refine lv_icmp_ge (tgt := 95) hx hb dX2_seekBreach_88 (by decide) (fun c8 => ?_) (fun c8 => ?_)
            · have hf := ob_pos c8 hf
              refine lv_iconst (v := (0 : Int32)) hx hb dX2_seekBreach_95 (by decide) ?_
              refine lv_istore (lv' := [(6, .int (0 : Int32)), (5, .int (1 : Int32)), (4, .int (v_mostHad y3.toNatClampNeg)), (0, .ref a_this), (1, .int y1), (2, .int y2), (3, .int y3)]) hx hb dX2_seekBreach_96 hl (by decide) rfl (fun ls hl => ?_)
              refine lv_iload hx hb dX2_seekBreach_98 (lv_at hl 0 rfl) ?_
              refine lv_if_eq (tgt := 136) hx hb dX2_seekBreach_100 (by decide) (fun c9 => ?_) (fun c9 => ?_)
              · refine lv_iinc (v := (y3 + (1 : Int32))) (lv' := [(3, .int (y3 + (1 : Int32))), (6, .int (0 : Int32)), (5, .int (1 : Int32)), (4, .int (v_mostHad y3.toNatClampNeg)), (0, .ref a_this), (1, .int y1), (2, .int y2)]) hx hb dX2_seekBreach_136 hl (k := 6) rfl rfl (by decide) rfl (fun ls hl => ?_)
                refine lv_goto (tgt := 24) hx hb dX2_seekBreach_139 (by decide) ?_
                exact ih (y3 + (1 : Int32)) v_breachSize v_breachGroup _ _ _ _ hf K hP hD hS (lv_sub hl [4, 5, 6, 0] rfl)
              · exact absurd c9 (by decide)
            · have hf := ob_neg c8 hf
              refine lv_iconst (v := (1 : Int32)) hx hb dX2_seekBreach_91 (by decide) ?_
              refine lv_goto (tgt := 96) hx hb dX2_seekBreach_92 (by decide) ?_
              refine lv_istore (lv' := [(6, .int (1 : Int32)), (5, .int (1 : Int32)), (4, .int (v_mostHad y3.toNatClampNeg)), (0, .ref a_this), (1, .int y1), (2, .int y2), (3, .int y3)]) hx hb dX2_seekBreach_96 hl (by decide) rfl (fun ls hl => ?_)
              refine lv_iload hx hb dX2_seekBreach_98 (lv_at hl 0 rfl) ?_
              refine lv_if_eq (tgt := 136) hx hb dX2_seekBreach_100 (by decide) (fun c10 => ?_) (fun c10 => ?_)
              · exact absurd c10 (by decide)
              · refine lv_aload_n hx hb dX2_seekBreach_103 rfl (lv_at hl 3 rfl) ?_
                refine va_get (D := D) (ci := 1) (v := .int v_breachSize) (C := RX2) (T := TX2) (N := 9) hx hb hts iX2 hown hK hP 0 rfl rfl 7 (by decide) fl58 (fun _ h9 => h9) rfl dX2_seekBreach_104 ?_
                refine lv_bipush (v := (-6 : Int32)) hx hb dX2_seekBreach_107 (by decide) ?_
                refine lv_icmp_eq (tgt := 123) hx hb dX2_seekBreach_109 (by decide) (fun c11 => ?_) (fun c11 => ?_)
                · have hf := ob_pos c11 hf
                  refine lv_aload_n hx hb dX2_seekBreach_123 rfl (lv_at hl 3 rfl) ?_
                  refine lv_iload hx hb dX2_seekBreach_124 (lv_at hl 2 rfl) ?_
                  refine lv_iconst (v := (1 : Int32)) hx hb dX2_seekBreach_126 (by decide) ?_
                  refine lv_iadd hx hb dX2_seekBreach_127 ?_
                  refine va_put (D := D) (ci := 1) (v := .int ((v_mostHad y3.toNatClampNeg) + (1 : Int32))) (ty := .int) (C := RX2) (T := TX2) (N := 9) hx hb hts iX2 tyX2 tyX2_ok nmX2 hown hK hP hD hS 0 rfl rfl 7 (by decide) fl58 (fun _ h9 => h9) rfl (by decide +kernel) rfl rfl (Nat.le_of_ble_eq_true rfl) dX2_seekBreach_128 (fun H locs hP hD hS => ?_)
                  have hP : va_P D vwCl (wd_X2_seekBreach cyI cyJ cyZ a_this a_common a_anyone a_papers a_due a_mostHad a_sets v_count ((v_mostHad y3.toNatClampNeg) + (1 : Int32)) v_breachGroup v_anyone v_due v_mostHad v_sets) H := hP
                  have hD : va_D A (wd_X2_seekBreach cyI cyJ cyZ a_this a_common a_anyone a_papers a_due a_mostHad a_sets v_count ((v_mostHad y3.toNatClampNeg) + (1 : Int32)) v_breachGroup v_anyone v_due v_mostHad v_sets) := hD
                  refine lv_aload_n hx hb dX2_seekBreach_131 rfl (lv_at hl 3 rfl) ?_
                  refine lv_iload_n hx hb dX2_seekBreach_132 rfl (lv_at hl 6 rfl) ?_
                  refine va_put (D := D) (ci := 1) (v := .int y3) (ty := .int) (C := RX2) (T := TX2) (N := 9) hx hb hts iX2 tyX2 tyX2_ok nmX2 hown hK hP hD hS 0 rfl rfl 8 (by decide) fl61 (fun _ h9 => h9) rfl (by decide +kernel) rfl rfl (Nat.le_of_ble_eq_true rfl) dX2_seekBreach_133 (fun H locs hP hD hS => ?_)
                  have hP : va_P D vwCl (wd_X2_seekBreach cyI cyJ cyZ a_this a_common a_anyone a_papers a_due a_mostHad a_sets v_count ((v_mostHad y3.toNatClampNeg) + (1 : Int32)) y3 v_anyone v_due v_mostHad v_sets) H := hP
                  have hD : va_D A (wd_X2_seekBreach cyI cyJ cyZ a_this a_common a_anyone a_papers a_due a_mostHad a_sets v_count ((v_mostHad y3.toNatClampNeg) + (1 : Int32)) y3 v_anyone v_due v_mostHad v_sets) := hD
                  refine lv_iinc (v := (y3 + (1 : Int32))) (lv' := [(3, .int (y3 + (1 : Int32))), (6, .int (1 : Int32)), (5, .int (1 : Int32)), (4, .int (v_mostHad y3.toNatClampNeg)), (0, .ref a_this), (1, .int y1), (2, .int y2)]) hx hb dX2_seekBreach_136 hl (k := 6) rfl rfl (by decide) rfl (fun ls hl => ?_)
                  refine lv_goto (tgt := 24) hx hb dX2_seekBreach_139 (by decide) ?_
                  exact ih (y3 + (1 : Int32)) ((v_mostHad y3.toNatClampNeg) + (1 : Int32)) y3 _ _ _ _ hf K hP hD hS (lv_sub hl [4, 5, 6, 0] rfl)
                · have hf := ob_neg c11 hf
                  refine lv_iload hx hb dX2_seekBreach_112 (lv_at hl 2 rfl) ?_
                  refine lv_iconst (v := (1 : Int32)) hx hb dX2_seekBreach_114 (by decide) ?_
                  refine lv_iadd hx hb dX2_seekBreach_115 ?_
                  refine lv_aload_n hx hb dX2_seekBreach_116 rfl (lv_at hl 3 rfl) ?_
                  refine va_get (D := D) (ci := 1) (v := .int v_breachSize) (C := RX2) (T := TX2) (N := 9) hx hb hts iX2 hown hK hP 0 rfl rfl 7 (by decide) fl58 (fun _ h9 => h9) rfl dX2_seekBreach_117 ?_
                  refine lv_icmp_ge (tgt := 136) hx hb dX2_seekBreach_120 (by decide) (fun c12 => ?_) (fun c12 => ?_)
                  · have hf := ob_pos c12 hf
                    refine lv_iinc (v := (y3 + (1 : Int32))) (lv' := [(3, .int (y3 + (1 : Int32))), (6, .int (1 : Int32)), (5, .int (1 : Int32)), (4, .int (v_mostHad y3.toNatClampNeg)), (0, .ref a_this), (1, .int y1), (2, .int y2)]) hx hb dX2_seekBreach_136 hl (k := 6) rfl rfl (by decide) rfl (fun ls hl => ?_)
                    refine lv_goto (tgt := 24) hx hb dX2_seekBreach_139 (by decide) ?_
                    exact ih (y3 + (1 : Int32)) v_breachSize v_breachGroup _ _ _ _ hf K hP hD hS (lv_sub hl [4, 5, 6, 0] rfl)
                  · have hf := ob_neg c12 hf
                    refine lv_aload_n hx hb dX2_seekBreach_123 rfl (lv_at hl 3 rfl) ?_
                    refine lv_iload hx hb dX2_seekBreach_124 (lv_at hl 2 rfl) ?_
                    refine lv_iconst (v := (1 : Int32)) hx hb dX2_seekBreach_126 (by decide) ?_
                    refine lv_iadd hx hb dX2_seekBreach_127 ?_
                    refine va_put (D := D) (ci := 1) (v := .int ((v_mostHad y3.toNatClampNeg) + (1 : Int32))) (ty := .int) (C := RX2) (T := TX2) (N := 9) hx hb hts iX2 tyX2 tyX2_ok nmX2 hown hK hP hD hS 0 rfl rfl 7 (by decide) fl58 (fun _ h9 => h9) rfl (by decide +kernel) rfl rfl (Nat.le_of_ble_eq_true rfl) dX2_seekBreach_128 (fun H locs hP hD hS => ?_)
                    have hP : va_P D vwCl (wd_X2_seekBreach cyI cyJ cyZ a_this a_common a_anyone a_papers a_due a_mostHad a_sets v_count ((v_mostHad y3.toNatClampNeg) + (1 : Int32)) v_breachGroup v_anyone v_due v_mostHad v_sets) H := hP
                    have hD : va_D A (wd_X2_seekBreach cyI cyJ cyZ a_this a_common a_anyone a_papers a_due a_mostHad a_sets v_count ((v_mostHad y3.toNatClampNeg) + (1 : Int32)) v_breachGroup v_anyone v_due v_mostHad v_sets) := hD
                    refine lv_aload_n hx hb dX2_seekBreach_131 rfl (lv_at hl 3 rfl) ?_
                    refine lv_iload_n hx hb dX2_seekBreach_132 rfl (lv_at hl 6 rfl) ?_
                    refine va_put (D := D) (ci := 1) (v := .int y3) (ty := .int) (C := RX2) (T := TX2) (N := 9) hx hb hts iX2 tyX2 tyX2_ok nmX2 hown hK hP hD hS 0 rfl rfl 8 (by decide) fl61 (fun _ h9 => h9) rfl (by decide +kernel) rfl rfl (Nat.le_of_ble_eq_true rfl) dX2_seekBreach_133 (fun H locs hP hD hS => ?_)
                    have hP : va_P D vwCl (wd_X2_seekBreach cyI cyJ cyZ a_this a_common a_anyone a_papers a_due a_mostHad a_sets v_count ((v_mostHad y3.toNatClampNeg) + (1 : Int32)) y3 v_anyone v_due v_mostHad v_sets) H := hP
                    have hD : va_D A (wd_X2_seekBreach cyI cyJ cyZ a_this a_common a_anyone a_papers a_due a_mostHad a_sets v_count ((v_mostHad y3.toNatClampNeg) + (1 : Int32)) y3 v_anyone v_due v_mostHad v_sets) := hD
                    refine lv_iinc (v := (y3 + (1 : Int32))) (lv' := [(3, .int (y3 + (1 : Int32))), (6, .int (1 : Int32)), (5, .int (1 : Int32)), (4, .int (v_mostHad y3.toNatClampNeg)), (0, .ref a_this), (1, .int y1), (2, .int y2)]) hx hb dX2_seekBreach_136 hl (k := 6) rfl rfl (by decide) rfl (fun ls hl => ?_)
                    refine lv_goto (tgt := 24) hx hb dX2_seekBreach_139 (by decide) ?_
                    exact ih (y3 + (1 : Int32)) ((v_mostHad y3.toNatClampNeg) + (1 : Int32)) y3 _ _ _ _ hf K hP hD hS (lv_sub hl [4, 5, 6, 0] rfl)
        · have hf := ob_pos c5 hf
          refine lv_iload hx hb dX2_seekBreach_63 (lv_at hl 0 rfl) ?_
          refine lv_if_ne (tgt := 72) hx hb dX2_seekBreach_65 (by decide) (fun c13 => ?_) (fun c13 => ?_)
          · have hf := ob_neg c13 hf
            refine lv_iconst (v := (0 : Int32)) hx hb dX2_seekBreach_72 (by decide) ?_
            refine lv_istore (lv' := [(5, .int (0 : Int32)), (4, .int (v_mostHad y3.toNatClampNeg)), (0, .ref a_this), (1, .int y1), (2, .int y2), (3, .int y3)]) hx hb dX2_seekBreach_73 hl (by decide) rfl (fun ls hl => ?_)
            refine lv_iload hx hb dX2_seekBreach_75 (lv_at hl 0 rfl) ?_
            refine lv_if_eq (tgt := 95) hx hb dX2_seekBreach_77 (by decide) (fun c14 => ?_) (fun c14 => ?_)
            · refine lv_iconst (v := (0 : Int32)) hx hb dX2_seekBreach_95 (by decide) ?_
              refine lv_istore (lv' := [(6, .int (0 : Int32)), (5, .int (0 : Int32)), (4, .int (v_mostHad y3.toNatClampNeg)), (0, .ref a_this), (1, .int y1), (2, .int y2), (3, .int y3)]) hx hb dX2_seekBreach_96 hl (by decide) rfl (fun ls hl => ?_)
              refine lv_iload hx hb dX2_seekBreach_98 (lv_at hl 0 rfl) ?_
              refine lv_if_eq (tgt := 136) hx hb dX2_seekBreach_100 (by decide) (fun c15 => ?_) (fun c15 => ?_)
              · refine lv_iinc (v := (y3 + (1 : Int32))) (lv' := [(3, .int (y3 + (1 : Int32))), (6, .int (0 : Int32)), (5, .int (0 : Int32)), (4, .int (v_mostHad y3.toNatClampNeg)), (0, .ref a_this), (1, .int y1), (2, .int y2)]) hx hb dX2_seekBreach_136 hl (k := 6) rfl rfl (by decide) rfl (fun ls hl => ?_)
                refine lv_goto (tgt := 24) hx hb dX2_seekBreach_139 (by decide) ?_
                exact ih (y3 + (1 : Int32)) v_breachSize v_breachGroup _ _ _ _ hf K hP hD hS (lv_sub hl [4, 5, 6, 0] rfl)
              · exact absurd c15 (by decide)
            · exact absurd c14 (by decide)
          · have hf := ob_pos c13 hf
            refine lv_iconst (v := (1 : Int32)) hx hb dX2_seekBreach_68 (by decide) ?_
            refine lv_goto (tgt := 73) hx hb dX2_seekBreach_69 (by decide) ?_
            refine lv_istore (lv' := [(5, .int (1 : Int32)), (4, .int (v_mostHad y3.toNatClampNeg)), (0, .ref a_this), (1, .int y1), (2, .int y2), (3, .int y3)]) hx hb dX2_seekBreach_73 hl (by decide) rfl (fun ls hl => ?_)
            refine lv_iload hx hb dX2_seekBreach_75 (lv_at hl 0 rfl) ?_
            refine lv_if_eq (tgt := 95) hx hb dX2_seekBreach_77 (by decide) (fun c16 => ?_) (fun c16 => ?_)
            · exact absurd c16 (by decide)
            · refine lv_iload hx hb dX2_seekBreach_80 (lv_at hl 1 rfl) ?_
              refine lv_aload_n hx hb dX2_seekBreach_82 rfl (lv_at hl 2 rfl) ?_
              refine va_get (D := D) (ci := 1) (v := .ref a_due) (C := RX2) (T := TX2) (N := 9) hx hb hts iX2 hown hK hP 0 rfl rfl 3 (by decide) fl21 (fun _ h9 => h9) rfl dX2_seekBreach_83 ?_
              refine lv_iload_n hx hb dX2_seekBreach_86 rfl (lv_at hl 5 rfl) ?_
              obtain ⟨h17, hf⟩ := og_in hf
              refine va_iald hx hb hK hP 2 0 rfl rfl h17 dX2_seekBreach_87 ?_
              refine lv_icmp_ge (tgt := 95) hx hb dX2_seekBreach_88 (by decide) (fun c18 => ?_) (fun c18 => ?_)
              · have hf := ob_pos c18 hf
                refine lv_iconst (v := (0 : Int32)) hx hb dX2_seekBreach_95 (by decide) ?_
                refine lv_istore (lv' := [(6, .int (0 : Int32)), (5, .int (1 : Int32)), (4, .int (v_mostHad y3.toNatClampNeg)), (0, .ref a_this), (1, .int y1), (2, .int y2), (3, .int y3)]) hx hb dX2_seekBreach_96 hl (by decide) rfl (fun ls hl => ?_)
                refine lv_iload hx hb dX2_seekBreach_98 (lv_at hl 0 rfl) ?_
                refine lv_if_eq (tgt := 136) hx hb dX2_seekBreach_100 (by decide) (fun c19 => ?_) (fun c19 => ?_)
                · refine lv_iinc (v := (y3 + (1 : Int32))) (lv' := [(3, .int (y3 + (1 : Int32))), (6, .int (0 : Int32)), (5, .int (1 : Int32)), (4, .int (v_mostHad y3.toNatClampNeg)), (0, .ref a_this), (1, .int y1), (2, .int y2)]) hx hb dX2_seekBreach_136 hl (k := 6) rfl rfl (by decide) rfl (fun ls hl => ?_)
                  refine lv_goto (tgt := 24) hx hb dX2_seekBreach_139 (by decide) ?_
                  exact ih (y3 + (1 : Int32)) v_breachSize v_breachGroup _ _ _ _ hf K hP hD hS (lv_sub hl [4, 5, 6, 0] rfl)
                · exact absurd c19 (by decide)
              · have hf := ob_neg c18 hf
                refine lv_iconst (v := (1 : Int32)) hx hb dX2_seekBreach_91 (by decide) ?_
                refine lv_goto (tgt := 96) hx hb dX2_seekBreach_92 (by decide) ?_
                refine lv_istore (lv' := [(6, .int (1 : Int32)), (5, .int (1 : Int32)), (4, .int (v_mostHad y3.toNatClampNeg)), (0, .ref a_this), (1, .int y1), (2, .int y2), (3, .int y3)]) hx hb dX2_seekBreach_96 hl (by decide) rfl (fun ls hl => ?_)
                refine lv_iload hx hb dX2_seekBreach_98 (lv_at hl 0 rfl) ?_
                refine lv_if_eq (tgt := 136) hx hb dX2_seekBreach_100 (by decide) (fun c20 => ?_) (fun c20 => ?_)
                · exact absurd c20 (by decide)
                · refine lv_aload_n hx hb dX2_seekBreach_103 rfl (lv_at hl 3 rfl) ?_
                  refine va_get (D := D) (ci := 1) (v := .int v_breachSize) (C := RX2) (T := TX2) (N := 9) hx hb hts iX2 hown hK hP 0 rfl rfl 7 (by decide) fl58 (fun _ h9 => h9) rfl dX2_seekBreach_104 ?_
                  refine lv_bipush (v := (-6 : Int32)) hx hb dX2_seekBreach_107 (by decide) ?_
                  refine lv_icmp_eq (tgt := 123) hx hb dX2_seekBreach_109 (by decide) (fun c21 => ?_) (fun c21 => ?_)
                  · have hf := ob_pos c21 hf
                    refine lv_aload_n hx hb dX2_seekBreach_123 rfl (lv_at hl 3 rfl) ?_
                    refine lv_iload hx hb dX2_seekBreach_124 (lv_at hl 2 rfl) ?_
                    refine lv_iconst (v := (1 : Int32)) hx hb dX2_seekBreach_126 (by decide) ?_
                    refine lv_iadd hx hb dX2_seekBreach_127 ?_
                    refine va_put (D := D) (ci := 1) (v := .int ((v_mostHad y3.toNatClampNeg) + (1 : Int32))) (ty := .int) (C := RX2) (T := TX2) (N := 9) hx hb hts iX2 tyX2 tyX2_ok nmX2 hown hK hP hD hS 0 rfl rfl 7 (by decide) fl58 (fun _ h9 => h9) rfl (by decide +kernel) rfl rfl (Nat.le_of_ble_eq_true rfl) dX2_seekBreach_128 (fun H locs hP hD hS => ?_)
                    have hP : va_P D vwCl (wd_X2_seekBreach cyI cyJ cyZ a_this a_common a_anyone a_papers a_due a_mostHad a_sets v_count ((v_mostHad y3.toNatClampNeg) + (1 : Int32)) v_breachGroup v_anyone v_due v_mostHad v_sets) H := hP
                    have hD : va_D A (wd_X2_seekBreach cyI cyJ cyZ a_this a_common a_anyone a_papers a_due a_mostHad a_sets v_count ((v_mostHad y3.toNatClampNeg) + (1 : Int32)) v_breachGroup v_anyone v_due v_mostHad v_sets) := hD
                    refine lv_aload_n hx hb dX2_seekBreach_131 rfl (lv_at hl 3 rfl) ?_
                    refine lv_iload_n hx hb dX2_seekBreach_132 rfl (lv_at hl 6 rfl) ?_
                    refine va_put (D := D) (ci := 1) (v := .int y3) (ty := .int) (C := RX2) (T := TX2) (N := 9) hx hb hts iX2 tyX2 tyX2_ok nmX2 hown hK hP hD hS 0 rfl rfl 8 (by decide) fl61 (fun _ h9 => h9) rfl (by decide +kernel) rfl rfl (Nat.le_of_ble_eq_true rfl) dX2_seekBreach_133 (fun H locs hP hD hS => ?_)
                    have hP : va_P D vwCl (wd_X2_seekBreach cyI cyJ cyZ a_this a_common a_anyone a_papers a_due a_mostHad a_sets v_count ((v_mostHad y3.toNatClampNeg) + (1 : Int32)) y3 v_anyone v_due v_mostHad v_sets) H := hP
                    have hD : va_D A (wd_X2_seekBreach cyI cyJ cyZ a_this a_common a_anyone a_papers a_due a_mostHad a_sets v_count ((v_mostHad y3.toNatClampNeg) + (1 : Int32)) y3 v_anyone v_due v_mostHad v_sets) := hD
                    refine lv_iinc (v := (y3 + (1 : Int32))) (lv' := [(3, .int (y3 + (1 : Int32))), (6, .int (1 : Int32)), (5, .int (1 : Int32)), (4, .int (v_mostHad y3.toNatClampNeg)), (0, .ref a_this), (1, .int y1), (2, .int y2)]) hx hb dX2_seekBreach_136 hl (k := 6) rfl rfl (by decide) rfl (fun ls hl => ?_)
                    refine lv_goto (tgt := 24) hx hb dX2_seekBreach_139 (by decide) ?_
                    exact ih (y3 + (1 : Int32)) ((v_mostHad y3.toNatClampNeg) + (1 : Int32)) y3 _ _ _ _ hf K hP hD hS (lv_sub hl [4, 5, 6, 0] rfl)
                  · have hf := ob_neg c21 hf
                    refine lv_iload hx hb dX2_seekBreach_112 (lv_at hl 2 rfl) ?_
                    refine lv_iconst (v := (1 : Int32)) hx hb dX2_seekBreach_114 (by decide) ?_
                    refine lv_iadd hx hb dX2_seekBreach_115 ?_
                    refine lv_aload_n hx hb dX2_seekBreach_116 rfl (lv_at hl 3 rfl) ?_
                    refine va_get (D := D) (ci := 1) (v := .int v_breachSize) (C := RX2) (T := TX2) (N := 9) hx hb hts iX2 hown hK hP 0 rfl rfl 7 (by decide) fl58 (fun _ h9 => h9) rfl dX2_seekBreach_117 ?_
                    refine lv_icmp_ge (tgt := 136) hx hb dX2_seekBreach_120 (by decide) (fun c22 => ?_) (fun c22 => ?_)
                    · have hf := ob_pos c22 hf
                      refine lv_iinc (v := (y3 + (1 : Int32))) (lv' := [(3, .int (y3 + (1 : Int32))), (6, .int (1 : Int32)), (5, .int (1 : Int32)), (4, .int (v_mostHad y3.toNatClampNeg)), (0, .ref a_this), (1, .int y1), (2, .int y2)]) hx hb dX2_seekBreach_136 hl (k := 6) rfl rfl (by decide) rfl (fun ls hl => ?_)
                      refine lv_goto (tgt := 24) hx hb dX2_seekBreach_139 (by decide) ?_
                      exact ih (y3 + (1 : Int32)) v_breachSize v_breachGroup _ _ _ _ hf K hP hD hS (lv_sub hl [4, 5, 6, 0] rfl)
                    · have hf := ob_neg c22 hf
                      refine lv_aload_n hx hb dX2_seekBreach_123 rfl (lv_at hl 3 rfl) ?_
                      refine lv_iload hx hb dX2_seekBreach_124 (lv_at hl 2 rfl) ?_
                      refine lv_iconst (v := (1 : Int32)) hx hb dX2_seekBreach_126 (by decide) ?_
                      refine lv_iadd hx hb dX2_seekBreach_127 ?_
                      refine va_put (D := D) (ci := 1) (v := .int ((v_mostHad y3.toNatClampNeg) + (1 : Int32))) (ty := .int) (C := RX2) (T := TX2) (N := 9) hx hb hts iX2 tyX2 tyX2_ok nmX2 hown hK hP hD hS 0 rfl rfl 7 (by decide) fl58 (fun _ h9 => h9) rfl (by decide +kernel) rfl rfl (Nat.le_of_ble_eq_true rfl) dX2_seekBreach_128 (fun H locs hP hD hS => ?_)
                      have hP : va_P D vwCl (wd_X2_seekBreach cyI cyJ cyZ a_this a_common a_anyone a_papers a_due a_mostHad a_sets v_count ((v_mostHad y3.toNatClampNeg) + (1 : Int32)) v_breachGroup v_anyone v_due v_mostHad v_sets) H := hP
                      have hD : va_D A (wd_X2_seekBreach cyI cyJ cyZ a_this a_common a_anyone a_papers a_due a_mostHad a_sets v_count ((v_mostHad y3.toNatClampNeg) + (1 : Int32)) v_breachGroup v_anyone v_due v_mostHad v_sets) := hD
                      refine lv_aload_n hx hb dX2_seekBreach_131 rfl (lv_at hl 3 rfl) ?_
                      refine lv_iload_n hx hb dX2_seekBreach_132 rfl (lv_at hl 6 rfl) ?_
                      refine va_put (D := D) (ci := 1) (v := .int y3) (ty := .int) (C := RX2) (T := TX2) (N := 9) hx hb hts iX2 tyX2 tyX2_ok nmX2 hown hK hP hD hS 0 rfl rfl 8 (by decide) fl61 (fun _ h9 => h9) rfl (by decide +kernel) rfl rfl (Nat.le_of_ble_eq_true rfl) dX2_seekBreach_133 (fun H locs hP hD hS => ?_)
                      have hP : va_P D vwCl (wd_X2_seekBreach cyI cyJ cyZ a_this a_common a_anyone a_papers a_due a_mostHad a_sets v_count ((v_mostHad y3.toNatClampNeg) + (1 : Int32)) y3 v_anyone v_due v_mostHad v_sets) H := hP
                      have hD : va_D A (wd_X2_seekBreach cyI cyJ cyZ a_this a_common a_anyone a_papers a_due a_mostHad a_sets v_count ((v_mostHad y3.toNatClampNeg) + (1 : Int32)) y3 v_anyone v_due v_mostHad v_sets) := hD
                      refine lv_iinc (v := (y3 + (1 : Int32))) (lv' := [(3, .int (y3 + (1 : Int32))), (6, .int (1 : Int32)), (5, .int (1 : Int32)), (4, .int (v_mostHad y3.toNatClampNeg)), (0, .ref a_this), (1, .int y1), (2, .int y2)]) hx hb dX2_seekBreach_136 hl (k := 6) rfl rfl (by decide) rfl (fun ls hl => ?_)
                      refine lv_goto (tgt := 24) hx hb dX2_seekBreach_139 (by decide) ?_
                      exact ih (y3 + (1 : Int32)) ((v_mostHad y3.toNatClampNeg) + (1 : Int32)) y3 _ _ _ _ hf K hP hD hS (lv_sub hl [4, 5, 6, 0] rfl)
      · have hf := ob_pos c3 hf
        refine lv_aload_n hx hb dX2_seekBreach_37 rfl (lv_at hl 0 rfl) ?_
        refine va_get (D := D) (ci := 1) (v := .ref a_anyone) (C := RX2) (T := TX2) (N := 9) hx hb hts iX2 hown hK hP 0 rfl rfl 1 (by decide) fl15 (fun _ h9 => h9) rfl dX2_seekBreach_38 ?_
        refine lv_iload_n hx hb dX2_seekBreach_41 rfl (lv_at hl 3 rfl) ?_
        obtain ⟨h23, hf⟩ := og_in hf
        refine va_iald hx hb hK hP 1 0 rfl rfl h23 dX2_seekBreach_42 ?_
        refine lv_iload_n hx hb dX2_seekBreach_43 rfl (lv_at hl 2 rfl) ?_
        refine lv_iand hx hb dX2_seekBreach_44 ?_
        obtain ⟨q24, hq24, hf⟩ := ob_bind hf
        refine k_Si (wo := (wd_X2_seekBreach cyI cyJ cyZ a_this a_common a_anyone a_papers a_due a_mostHad a_sets v_count v_breachSize v_breachGroup v_anyone v_due v_mostHad v_sets)) (As := [.int ((v_anyone y3.toNatClampNeg) &&& y2)]) (rest := []) C (c_J6_bitCount_0f7a4 l D cyI cyJ cyZ   ((v_anyone y3.toNatClampNeg) &&& y2) q24 hq24) cw53 hP hD hS [] [0, 1, 2, 3, 4] [0, 1, 2, 3, 4] rfl rfl rfl (by decide) rfl rfl hl.1 (Nat.le_of_ble_eq_true rfl) dX2_seekBreach_45 ⟨Nat.zero_le _, Nat.zero_le _⟩ (fun H locs hP hD hS => ?_)
        refine lv_goto (tgt := 57) hx hb dX2_seekBreach_48 (by decide) ?_
        refine lv_istore (lv' := [(4, .int q24), (0, .ref a_this), (1, .int y1), (2, .int y2), (3, .int y3)]) hx hb dX2_seekBreach_57 hl (by decide) rfl (fun ls hl => ?_)
        refine lv_iload_n hx hb dX2_seekBreach_59 rfl (lv_at hl 2 rfl) ?_
        refine lv_if_ne (tgt := 68) hx hb dX2_seekBreach_60 (by decide) (fun c25 => ?_) (fun c25 => ?_)
        · have hf := ob_neg c25 hf
          refine lv_iconst (v := (1 : Int32)) hx hb dX2_seekBreach_68 (by decide) ?_
          refine lv_goto (tgt := 73) hx hb dX2_seekBreach_69 (by decide) ?_
          refine lv_istore (lv' := [(5, .int (1 : Int32)), (4, .int q24), (0, .ref a_this), (1, .int y1), (2, .int y2), (3, .int y3)]) hx hb dX2_seekBreach_73 hl (by decide) rfl (fun ls hl => ?_)
          refine lv_iload hx hb dX2_seekBreach_75 (lv_at hl 0 rfl) ?_
          refine lv_if_eq (tgt := 95) hx hb dX2_seekBreach_77 (by decide) (fun c26 => ?_) (fun c26 => ?_)
          · exact absurd c26 (by decide)
          · refine lv_iload hx hb dX2_seekBreach_80 (lv_at hl 1 rfl) ?_
            refine lv_aload_n hx hb dX2_seekBreach_82 rfl (lv_at hl 2 rfl) ?_
            refine va_get (D := D) (ci := 1) (v := .ref a_due) (C := RX2) (T := TX2) (N := 9) hx hb hts iX2 hown hK hP 0 rfl rfl 3 (by decide) fl21 (fun _ h9 => h9) rfl dX2_seekBreach_83 ?_
            refine lv_iload_n hx hb dX2_seekBreach_86 rfl (lv_at hl 5 rfl) ?_
            obtain ⟨h27, hf⟩ := og_in hf
            refine va_iald hx hb hK hP 2 0 rfl rfl h27 dX2_seekBreach_87 ?_
            refine lv_icmp_ge (tgt := 95) hx hb dX2_seekBreach_88 (by decide) (fun c28 => ?_) (fun c28 => ?_)
            · have hf := ob_pos c28 hf
              refine lv_iconst (v := (0 : Int32)) hx hb dX2_seekBreach_95 (by decide) ?_
              refine lv_istore (lv' := [(6, .int (0 : Int32)), (5, .int (1 : Int32)), (4, .int q24), (0, .ref a_this), (1, .int y1), (2, .int y2), (3, .int y3)]) hx hb dX2_seekBreach_96 hl (by decide) rfl (fun ls hl => ?_)
              refine lv_iload hx hb dX2_seekBreach_98 (lv_at hl 0 rfl) ?_
              refine lv_if_eq (tgt := 136) hx hb dX2_seekBreach_100 (by decide) (fun c29 => ?_) (fun c29 => ?_)
              · refine lv_iinc (v := (y3 + (1 : Int32))) (lv' := [(3, .int (y3 + (1 : Int32))), (6, .int (0 : Int32)), (5, .int (1 : Int32)), (4, .int q24), (0, .ref a_this), (1, .int y1), (2, .int y2)]) hx hb dX2_seekBreach_136 hl (k := 6) rfl rfl (by decide) rfl (fun ls hl => ?_)
                refine lv_goto (tgt := 24) hx hb dX2_seekBreach_139 (by decide) ?_
                exact ih (y3 + (1 : Int32)) v_breachSize v_breachGroup _ _ _ _ hf K hP hD hS (lv_sub hl [4, 5, 6, 0] rfl)
              · exact absurd c29 (by decide)
            · have hf := ob_neg c28 hf
              refine lv_iconst (v := (1 : Int32)) hx hb dX2_seekBreach_91 (by decide) ?_
              refine lv_goto (tgt := 96) hx hb dX2_seekBreach_92 (by decide) ?_
              refine lv_istore (lv' := [(6, .int (1 : Int32)), (5, .int (1 : Int32)), (4, .int q24), (0, .ref a_this), (1, .int y1), (2, .int y2), (3, .int y3)]) hx hb dX2_seekBreach_96 hl (by decide) rfl (fun ls hl => ?_)
              refine lv_iload hx hb dX2_seekBreach_98 (lv_at hl 0 rfl) ?_
              refine lv_if_eq (tgt := 136) hx hb dX2_seekBreach_100 (by decide) (fun c30 => ?_) (fun c30 => ?_)
              · exact absurd c30 (by decide)
              · refine lv_aload_n hx hb dX2_seekBreach_103 rfl (lv_at hl 3 rfl) ?_
                refine va_get (D := D) (ci := 1) (v := .int v_breachSize) (C := RX2) (T := TX2) (N := 9) hx hb hts iX2 hown hK hP 0 rfl rfl 7 (by decide) fl58 (fun _ h9 => h9) rfl dX2_seekBreach_104 ?_
                refine lv_bipush (v := (-6 : Int32)) hx hb dX2_seekBreach_107 (by decide) ?_
                refine lv_icmp_eq (tgt := 123) hx hb dX2_seekBreach_109 (by decide) (fun c31 => ?_) (fun c31 => ?_)
                · have hf := ob_pos c31 hf
                  refine lv_aload_n hx hb dX2_seekBreach_123 rfl (lv_at hl 3 rfl) ?_
                  refine lv_iload hx hb dX2_seekBreach_124 (lv_at hl 2 rfl) ?_
                  refine lv_iconst (v := (1 : Int32)) hx hb dX2_seekBreach_126 (by decide) ?_
                  refine lv_iadd hx hb dX2_seekBreach_127 ?_
                  refine va_put (D := D) (ci := 1) (v := .int (q24 + (1 : Int32))) (ty := .int) (C := RX2) (T := TX2) (N := 9) hx hb hts iX2 tyX2 tyX2_ok nmX2 hown hK hP hD hS 0 rfl rfl 7 (by decide) fl58 (fun _ h9 => h9) rfl (by decide +kernel) rfl rfl (Nat.le_of_ble_eq_true rfl) dX2_seekBreach_128 (fun H locs hP hD hS => ?_)
                  have hP : va_P D vwCl (wd_X2_seekBreach cyI cyJ cyZ a_this a_common a_anyone a_papers a_due a_mostHad a_sets v_count (q24 + (1 : Int32)) v_breachGroup v_anyone v_due v_mostHad v_sets) H := hP
                  have hD : va_D A (wd_X2_seekBreach cyI cyJ cyZ a_this a_common a_anyone a_papers a_due a_mostHad a_sets v_count (q24 + (1 : Int32)) v_breachGroup v_anyone v_due v_mostHad v_sets) := hD
                  refine lv_aload_n hx hb dX2_seekBreach_131 rfl (lv_at hl 3 rfl) ?_
                  refine lv_iload_n hx hb dX2_seekBreach_132 rfl (lv_at hl 6 rfl) ?_
                  refine va_put (D := D) (ci := 1) (v := .int y3) (ty := .int) (C := RX2) (T := TX2) (N := 9) hx hb hts iX2 tyX2 tyX2_ok nmX2 hown hK hP hD hS 0 rfl rfl 8 (by decide) fl61 (fun _ h9 => h9) rfl (by decide +kernel) rfl rfl (Nat.le_of_ble_eq_true rfl) dX2_seekBreach_133 (fun H locs hP hD hS => ?_)
                  have hP : va_P D vwCl (wd_X2_seekBreach cyI cyJ cyZ a_this a_common a_anyone a_papers a_due a_mostHad a_sets v_count (q24 + (1 : Int32)) y3 v_anyone v_due v_mostHad v_sets) H := hP
                  have hD : va_D A (wd_X2_seekBreach cyI cyJ cyZ a_this a_common a_anyone a_papers a_due a_mostHad a_sets v_count (q24 + (1 : Int32)) y3 v_anyone v_due v_mostHad v_sets) := hD
                  refine lv_iinc (v := (y3 + (1 : Int32))) (lv' := [(3, .int (y3 + (1 : Int32))), (6, .int (1 : Int32)), (5, .int (1 : Int32)), (4, .int q24), (0, .ref a_this), (1, .int y1), (2, .int y2)]) hx hb dX2_seekBreach_136 hl (k := 6) rfl rfl (by decide) rfl (fun ls hl => ?_)
                  refine lv_goto (tgt := 24) hx hb dX2_seekBreach_139 (by decide) ?_
                  exact ih (y3 + (1 : Int32)) (q24 + (1 : Int32)) y3 _ _ _ _ hf K hP hD hS (lv_sub hl [4, 5, 6, 0] rfl)
                · have hf := ob_neg c31 hf
                  refine lv_iload hx hb dX2_seekBreach_112 (lv_at hl 2 rfl) ?_
                  refine lv_iconst (v := (1 : Int32)) hx hb dX2_seekBreach_114 (by decide) ?_
                  refine lv_iadd hx hb dX2_seekBreach_115 ?_
                  refine lv_aload_n hx hb dX2_seekBreach_116 rfl (lv_at hl 3 rfl) ?_
                  refine va_get (D := D) (ci := 1) (v := .int v_breachSize) (C := RX2) (T := TX2) (N := 9) hx hb hts iX2 hown hK hP 0 rfl rfl 7 (by decide) fl58 (fun _ h9 => h9) rfl dX2_seekBreach_117 ?_
                  refine lv_icmp_ge (tgt := 136) hx hb dX2_seekBreach_120 (by decide) (fun c32 => ?_) (fun c32 => ?_)
                  · have hf := ob_pos c32 hf
                    refine lv_iinc (v := (y3 + (1 : Int32))) (lv' := [(3, .int (y3 + (1 : Int32))), (6, .int (1 : Int32)), (5, .int (1 : Int32)), (4, .int q24), (0, .ref a_this), (1, .int y1), (2, .int y2)]) hx hb dX2_seekBreach_136 hl (k := 6) rfl rfl (by decide) rfl (fun ls hl => ?_)
                    refine lv_goto (tgt := 24) hx hb dX2_seekBreach_139 (by decide) ?_
                    exact ih (y3 + (1 : Int32)) v_breachSize v_breachGroup _ _ _ _ hf K hP hD hS (lv_sub hl [4, 5, 6, 0] rfl)
                  · have hf := ob_neg c32 hf
                    refine lv_aload_n hx hb dX2_seekBreach_123 rfl (lv_at hl 3 rfl) ?_
                    refine lv_iload hx hb dX2_seekBreach_124 (lv_at hl 2 rfl) ?_
                    refine lv_iconst (v := (1 : Int32)) hx hb dX2_seekBreach_126 (by decide) ?_
                    refine lv_iadd hx hb dX2_seekBreach_127 ?_
                    refine va_put (D := D) (ci := 1) (v := .int (q24 + (1 : Int32))) (ty := .int) (C := RX2) (T := TX2) (N := 9) hx hb hts iX2 tyX2 tyX2_ok nmX2 hown hK hP hD hS 0 rfl rfl 7 (by decide) fl58 (fun _ h9 => h9) rfl (by decide +kernel) rfl rfl (Nat.le_of_ble_eq_true rfl) dX2_seekBreach_128 (fun H locs hP hD hS => ?_)
                    have hP : va_P D vwCl (wd_X2_seekBreach cyI cyJ cyZ a_this a_common a_anyone a_papers a_due a_mostHad a_sets v_count (q24 + (1 : Int32)) v_breachGroup v_anyone v_due v_mostHad v_sets) H := hP
                    have hD : va_D A (wd_X2_seekBreach cyI cyJ cyZ a_this a_common a_anyone a_papers a_due a_mostHad a_sets v_count (q24 + (1 : Int32)) v_breachGroup v_anyone v_due v_mostHad v_sets) := hD
                    refine lv_aload_n hx hb dX2_seekBreach_131 rfl (lv_at hl 3 rfl) ?_
                    refine lv_iload_n hx hb dX2_seekBreach_132 rfl (lv_at hl 6 rfl) ?_
                    refine va_put (D := D) (ci := 1) (v := .int y3) (ty := .int) (C := RX2) (T := TX2) (N := 9) hx hb hts iX2 tyX2 tyX2_ok nmX2 hown hK hP hD hS 0 rfl rfl 8 (by decide) fl61 (fun _ h9 => h9) rfl (by decide +kernel) rfl rfl (Nat.le_of_ble_eq_true rfl) dX2_seekBreach_133 (fun H locs hP hD hS => ?_)
                    have hP : va_P D vwCl (wd_X2_seekBreach cyI cyJ cyZ a_this a_common a_anyone a_papers a_due a_mostHad a_sets v_count (q24 + (1 : Int32)) y3 v_anyone v_due v_mostHad v_sets) H := hP
                    have hD : va_D A (wd_X2_seekBreach cyI cyJ cyZ a_this a_common a_anyone a_papers a_due a_mostHad a_sets v_count (q24 + (1 : Int32)) y3 v_anyone v_due v_mostHad v_sets) := hD
                    refine lv_iinc (v := (y3 + (1 : Int32))) (lv' := [(3, .int (y3 + (1 : Int32))), (6, .int (1 : Int32)), (5, .int (1 : Int32)), (4, .int q24), (0, .ref a_this), (1, .int y1), (2, .int y2)]) hx hb dX2_seekBreach_136 hl (k := 6) rfl rfl (by decide) rfl (fun ls hl => ?_)
                    refine lv_goto (tgt := 24) hx hb dX2_seekBreach_139 (by decide) ?_
                    exact ih (y3 + (1 : Int32)) (q24 + (1 : Int32)) y3 _ _ _ _ hf K hP hD hS (lv_sub hl [4, 5, 6, 0] rfl)
        · have hf := ob_pos c25 hf
          refine lv_iload hx hb dX2_seekBreach_63 (lv_at hl 0 rfl) ?_
          refine lv_if_ne (tgt := 72) hx hb dX2_seekBreach_65 (by decide) (fun c33 => ?_) (fun c33 => ?_)
          · have hf := ob_neg c33 hf
            refine lv_iconst (v := (0 : Int32)) hx hb dX2_seekBreach_72 (by decide) ?_
            refine lv_istore (lv' := [(5, .int (0 : Int32)), (4, .int q24), (0, .ref a_this), (1, .int y1), (2, .int y2), (3, .int y3)]) hx hb dX2_seekBreach_73 hl (by decide) rfl (fun ls hl => ?_)
            refine lv_iload hx hb dX2_seekBreach_75 (lv_at hl 0 rfl) ?_
            refine lv_if_eq (tgt := 95) hx hb dX2_seekBreach_77 (by decide) (fun c34 => ?_) (fun c34 => ?_)
            · refine lv_iconst (v := (0 : Int32)) hx hb dX2_seekBreach_95 (by decide) ?_
              refine lv_istore (lv' := [(6, .int (0 : Int32)), (5, .int (0 : Int32)), (4, .int q24), (0, .ref a_this), (1, .int y1), (2, .int y2), (3, .int y3)]) hx hb dX2_seekBreach_96 hl (by decide) rfl (fun ls hl => ?_)
              refine lv_iload hx hb dX2_seekBreach_98 (lv_at hl 0 rfl) ?_
              refine lv_if_eq (tgt := 136) hx hb dX2_seekBreach_100 (by decide) (fun c35 => ?_) (fun c35 => ?_)
              · refine lv_iinc (v := (y3 + (1 : Int32))) (lv' := [(3, .int (y3 + (1 : Int32))), (6, .int (0 : Int32)), (5, .int (0 : Int32)), (4, .int q24), (0, .ref a_this), (1, .int y1), (2, .int y2)]) hx hb dX2_seekBreach_136 hl (k := 6) rfl rfl (by decide) rfl (fun ls hl => ?_)
                refine lv_goto (tgt := 24) hx hb dX2_seekBreach_139 (by decide) ?_
                exact ih (y3 + (1 : Int32)) v_breachSize v_breachGroup _ _ _ _ hf K hP hD hS (lv_sub hl [4, 5, 6, 0] rfl)
              · exact absurd c35 (by decide)
            · exact absurd c34 (by decide)
          · have hf := ob_pos c33 hf
            refine lv_iconst (v := (1 : Int32)) hx hb dX2_seekBreach_68 (by decide) ?_
            refine lv_goto (tgt := 73) hx hb dX2_seekBreach_69 (by decide) ?_
            refine lv_istore (lv' := [(5, .int (1 : Int32)), (4, .int q24), (0, .ref a_this), (1, .int y1), (2, .int y2), (3, .int y3)]) hx hb dX2_seekBreach_73 hl (by decide) rfl (fun ls hl => ?_)
            refine lv_iload hx hb dX2_seekBreach_75 (lv_at hl 0 rfl) ?_
            refine lv_if_eq (tgt := 95) hx hb dX2_seekBreach_77 (by decide) (fun c36 => ?_) (fun c36 => ?_)
            · exact absurd c36 (by decide)
            · refine lv_iload hx hb dX2_seekBreach_80 (lv_at hl 1 rfl) ?_
              refine lv_aload_n hx hb dX2_seekBreach_82 rfl (lv_at hl 2 rfl) ?_
              refine va_get (D := D) (ci := 1) (v := .ref a_due) (C := RX2) (T := TX2) (N := 9) hx hb hts iX2 hown hK hP 0 rfl rfl 3 (by decide) fl21 (fun _ h9 => h9) rfl dX2_seekBreach_83 ?_
              refine lv_iload_n hx hb dX2_seekBreach_86 rfl (lv_at hl 5 rfl) ?_
              obtain ⟨h37, hf⟩ := og_in hf
              refine va_iald hx hb hK hP 2 0 rfl rfl h37 dX2_seekBreach_87 ?_
              refine lv_icmp_ge (tgt := 95) hx hb dX2_seekBreach_88 (by decide) (fun c38 => ?_) (fun c38 => ?_)
              · have hf := ob_pos c38 hf
                refine lv_iconst (v := (0 : Int32)) hx hb dX2_seekBreach_95 (by decide) ?_
                refine lv_istore (lv' := [(6, .int (0 : Int32)), (5, .int (1 : Int32)), (4, .int q24), (0, .ref a_this), (1, .int y1), (2, .int y2), (3, .int y3)]) hx hb dX2_seekBreach_96 hl (by decide) rfl (fun ls hl => ?_)
                refine lv_iload hx hb dX2_seekBreach_98 (lv_at hl 0 rfl) ?_
                refine lv_if_eq (tgt := 136) hx hb dX2_seekBreach_100 (by decide) (fun c39 => ?_) (fun c39 => ?_)
                · refine lv_iinc (v := (y3 + (1 : Int32))) (lv' := [(3, .int (y3 + (1 : Int32))), (6, .int (0 : Int32)), (5, .int (1 : Int32)), (4, .int q24), (0, .ref a_this), (1, .int y1), (2, .int y2)]) hx hb dX2_seekBreach_136 hl (k := 6) rfl rfl (by decide) rfl (fun ls hl => ?_)
                  refine lv_goto (tgt := 24) hx hb dX2_seekBreach_139 (by decide) ?_
                  exact ih (y3 + (1 : Int32)) v_breachSize v_breachGroup _ _ _ _ hf K hP hD hS (lv_sub hl [4, 5, 6, 0] rfl)
                · exact absurd c39 (by decide)
              · have hf := ob_neg c38 hf
                refine lv_iconst (v := (1 : Int32)) hx hb dX2_seekBreach_91 (by decide) ?_
                refine lv_goto (tgt := 96) hx hb dX2_seekBreach_92 (by decide) ?_
                refine lv_istore (lv' := [(6, .int (1 : Int32)), (5, .int (1 : Int32)), (4, .int q24), (0, .ref a_this), (1, .int y1), (2, .int y2), (3, .int y3)]) hx hb dX2_seekBreach_96 hl (by decide) rfl (fun ls hl => ?_)
                refine lv_iload hx hb dX2_seekBreach_98 (lv_at hl 0 rfl) ?_
                refine lv_if_eq (tgt := 136) hx hb dX2_seekBreach_100 (by decide) (fun c40 => ?_) (fun c40 => ?_)
                · exact absurd c40 (by decide)
                · refine lv_aload_n hx hb dX2_seekBreach_103 rfl (lv_at hl 3 rfl) ?_
                  refine va_get (D := D) (ci := 1) (v := .int v_breachSize) (C := RX2) (T := TX2) (N := 9) hx hb hts iX2 hown hK hP 0 rfl rfl 7 (by decide) fl58 (fun _ h9 => h9) rfl dX2_seekBreach_104 ?_
                  refine lv_bipush (v := (-6 : Int32)) hx hb dX2_seekBreach_107 (by decide) ?_
                  refine lv_icmp_eq (tgt := 123) hx hb dX2_seekBreach_109 (by decide) (fun c41 => ?_) (fun c41 => ?_)
                  · have hf := ob_pos c41 hf
                    refine lv_aload_n hx hb dX2_seekBreach_123 rfl (lv_at hl 3 rfl) ?_
                    refine lv_iload hx hb dX2_seekBreach_124 (lv_at hl 2 rfl) ?_
                    refine lv_iconst (v := (1 : Int32)) hx hb dX2_seekBreach_126 (by decide) ?_
                    refine lv_iadd hx hb dX2_seekBreach_127 ?_
                    refine va_put (D := D) (ci := 1) (v := .int (q24 + (1 : Int32))) (ty := .int) (C := RX2) (T := TX2) (N := 9) hx hb hts iX2 tyX2 tyX2_ok nmX2 hown hK hP hD hS 0 rfl rfl 7 (by decide) fl58 (fun _ h9 => h9) rfl (by decide +kernel) rfl rfl (Nat.le_of_ble_eq_true rfl) dX2_seekBreach_128 (fun H locs hP hD hS => ?_)
                    have hP : va_P D vwCl (wd_X2_seekBreach cyI cyJ cyZ a_this a_common a_anyone a_papers a_due a_mostHad a_sets v_count (q24 + (1 : Int32)) v_breachGroup v_anyone v_due v_mostHad v_sets) H := hP
                    have hD : va_D A (wd_X2_seekBreach cyI cyJ cyZ a_this a_common a_anyone a_papers a_due a_mostHad a_sets v_count (q24 + (1 : Int32)) v_breachGroup v_anyone v_due v_mostHad v_sets) := hD
                    refine lv_aload_n hx hb dX2_seekBreach_131 rfl (lv_at hl 3 rfl) ?_
                    refine lv_iload_n hx hb dX2_seekBreach_132 rfl (lv_at hl 6 rfl) ?_
                    refine va_put (D := D) (ci := 1) (v := .int y3) (ty := .int) (C := RX2) (T := TX2) (N := 9) hx hb hts iX2 tyX2 tyX2_ok nmX2 hown hK hP hD hS 0 rfl rfl 8 (by decide) fl61 (fun _ h9 => h9) rfl (by decide +kernel) rfl rfl (Nat.le_of_ble_eq_true rfl) dX2_seekBreach_133 (fun H locs hP hD hS => ?_)
                    have hP : va_P D vwCl (wd_X2_seekBreach cyI cyJ cyZ a_this a_common a_anyone a_papers a_due a_mostHad a_sets v_count (q24 + (1 : Int32)) y3 v_anyone v_due v_mostHad v_sets) H := hP
                    have hD : va_D A (wd_X2_seekBreach cyI cyJ cyZ a_this a_common a_anyone a_papers a_due a_mostHad a_sets v_count (q24 + (1 : Int32)) y3 v_anyone v_due v_mostHad v_sets) := hD
                    refine lv_iinc (v := (y3 + (1 : Int32))) (lv' := [(3, .int (y3 + (1 : Int32))), (6, .int (1 : Int32)), (5, .int (1 : Int32)), (4, .int q24), (0, .ref a_this), (1, .int y1), (2, .int y2)]) hx hb dX2_seekBreach_136 hl (k := 6) rfl rfl (by decide) rfl (fun ls hl => ?_)
                    refine lv_goto (tgt := 24) hx hb dX2_seekBreach_139 (by decide) ?_
                    exact ih (y3 + (1 : Int32)) (q24 + (1 : Int32)) y3 _ _ _ _ hf K hP hD hS (lv_sub hl [4, 5, 6, 0] rfl)
                  · have hf := ob_neg c41 hf
                    refine lv_iload hx hb dX2_seekBreach_112 (lv_at hl 2 rfl) ?_
                    refine lv_iconst (v := (1 : Int32)) hx hb dX2_seekBreach_114 (by decide) ?_
                    refine lv_iadd hx hb dX2_seekBreach_115 ?_
                    refine lv_aload_n hx hb dX2_seekBreach_116 rfl (lv_at hl 3 rfl) ?_
                    refine va_get (D := D) (ci := 1) (v := .int v_breachSize) (C := RX2) (T := TX2) (N := 9) hx hb hts iX2 hown hK hP 0 rfl rfl 7 (by decide) fl58 (fun _ h9 => h9) rfl dX2_seekBreach_117 ?_
                    refine lv_icmp_ge (tgt := 136) hx hb dX2_seekBreach_120 (by decide) (fun c42 => ?_) (fun c42 => ?_)
                    · have hf := ob_pos c42 hf
                      refine lv_iinc (v := (y3 + (1 : Int32))) (lv' := [(3, .int (y3 + (1 : Int32))), (6, .int (1 : Int32)), (5, .int (1 : Int32)), (4, .int q24), (0, .ref a_this), (1, .int y1), (2, .int y2)]) hx hb dX2_seekBreach_136 hl (k := 6) rfl rfl (by decide) rfl (fun ls hl => ?_)
                      refine lv_goto (tgt := 24) hx hb dX2_seekBreach_139 (by decide) ?_
                      exact ih (y3 + (1 : Int32)) v_breachSize v_breachGroup _ _ _ _ hf K hP hD hS (lv_sub hl [4, 5, 6, 0] rfl)
                    · have hf := ob_neg c42 hf
                      refine lv_aload_n hx hb dX2_seekBreach_123 rfl (lv_at hl 3 rfl) ?_
                      refine lv_iload hx hb dX2_seekBreach_124 (lv_at hl 2 rfl) ?_
                      refine lv_iconst (v := (1 : Int32)) hx hb dX2_seekBreach_126 (by decide) ?_
                      refine lv_iadd hx hb dX2_seekBreach_127 ?_
                      refine va_put (D := D) (ci := 1) (v := .int (q24 + (1 : Int32))) (ty := .int) (C := RX2) (T := TX2) (N := 9) hx hb hts iX2 tyX2 tyX2_ok nmX2 hown hK hP hD hS 0 rfl rfl 7 (by decide) fl58 (fun _ h9 => h9) rfl (by decide +kernel) rfl rfl (Nat.le_of_ble_eq_true rfl) dX2_seekBreach_128 (fun H locs hP hD hS => ?_)
                      have hP : va_P D vwCl (wd_X2_seekBreach cyI cyJ cyZ a_this a_common a_anyone a_papers a_due a_mostHad a_sets v_count (q24 + (1 : Int32)) v_breachGroup v_anyone v_due v_mostHad v_sets) H := hP
                      have hD : va_D A (wd_X2_seekBreach cyI cyJ cyZ a_this a_common a_anyone a_papers a_due a_mostHad a_sets v_count (q24 + (1 : Int32)) v_breachGroup v_anyone v_due v_mostHad v_sets) := hD
                      refine lv_aload_n hx hb dX2_seekBreach_131 rfl (lv_at hl 3 rfl) ?_
                      refine lv_iload_n hx hb dX2_seekBreach_132 rfl (lv_at hl 6 rfl) ?_
                      refine va_put (D := D) (ci := 1) (v := .int y3) (ty := .int) (C := RX2) (T := TX2) (N := 9) hx hb hts iX2 tyX2 tyX2_ok nmX2 hown hK hP hD hS 0 rfl rfl 8 (by decide) fl61 (fun _ h9 => h9) rfl (by decide +kernel) rfl rfl (Nat.le_of_ble_eq_true rfl) dX2_seekBreach_133 (fun H locs hP hD hS => ?_)
                      have hP : va_P D vwCl (wd_X2_seekBreach cyI cyJ cyZ a_this a_common a_anyone a_papers a_due a_mostHad a_sets v_count (q24 + (1 : Int32)) y3 v_anyone v_due v_mostHad v_sets) H := hP
                      have hD : va_D A (wd_X2_seekBreach cyI cyJ cyZ a_this a_common a_anyone a_papers a_due a_mostHad a_sets v_count (q24 + (1 : Int32)) y3 v_anyone v_due v_mostHad v_sets) := hD
                      refine lv_iinc (v := (y3 + (1 : Int32))) (lv' := [(3, .int (y3 + (1 : Int32))), (6, .int (1 : Int32)), (5, .int (1 : Int32)), (4, .int q24), (0, .ref a_this), (1, .int y1), (2, .int y2)]) hx hb dX2_seekBreach_136 hl (k := 6) rfl rfl (by decide) rfl (fun ls hl => ?_)
                      refine lv_goto (tgt := 24) hx hb dX2_seekBreach_139 (by decide) ?_
                      exact ih (y3 + (1 : Int32)) (q24 + (1 : Int32)) y3 _ _ _ _ hf K hP hD hS (lv_sub hl [4, 5, 6, 0] rfl)
set_option maxHeartbeats 4000000 in
set_option maxRecDepth 100000 in
theorem c_X2_seekBreach (l : Launch) (D : va_G) (cyI cyJ cyZ : ClassId) (a_this a_common a_anyone a_papers a_due a_mostHad a_sets : Nat) (v_count : Int32) (v_breachSize : Int32) (v_breachGroup : Int32) (v_anyone : Nat → Int32) (v_due : Nat → Int32) (v_mostHad : Nat → Int32) (v_sets : Nat → Int32) (x1 : Int32) (x2 : Int32) (q : Int32 × Int32 × (Nat → Int32)) (hf : f_X2_seekBreach x1 x2 v_count v_breachSize v_breachGroup v_anyone v_due v_mostHad v_sets = some q) : kMv l yX2_seekBreach wsX2_seekBreach rm_X2_seekBreach D (kTy cyI cyJ cyZ) [.ref a_this, .int x1, .int x2] (wd_X2_seekBreach cyI cyJ cyZ a_this a_common a_anyone a_papers a_due a_mostHad a_sets v_count v_breachSize v_breachGroup v_anyone v_due v_mostHad v_sets) (wd_X2_seekBreach cyI cyJ cyZ a_this a_common a_anyone a_papers a_due a_mostHad a_sets v_count q.1 q.2.1 v_anyone v_due q.2.2 v_sets) := by
  refine kMv_of (cc := cX2_seekBreach) (nL := 7) (own := RX2) (by decide) rfl rfl (Nat.le_of_ble_eq_true rfl) ?_
  intro p e s m below meth c A Q ls C hret hP hD hS hl
  have hl : lv_has ls 7 [(0, .ref a_this), (1, .int x1), (2, .int x2)] := hl
  unfold f_X2_seekBreach at hf
  obtain ⟨hx, hb, hml, hown, hts, hK, hA⟩ := id C
  have iX2 : ∀ w ∈ u_ws RX2 TX2 9, w ∈ wsX2_seekBreach := by decide +kernel
  have fl58 := hts (.fieldLink RX2 58 "FairSeats$Groups" "breachSize" "I") (by decide +kernel)
  have fl61 := hts (.fieldLink RX2 61 "FairSeats$Groups" "breachGroup" "I") (by decide +kernel)
  have cw64 := cwV (R := rm_X2_seekBreach) (rm := rm_X2_countMostHad) 1 hts gX2_seekBreach_X2_countMostHad rfl rfl rfl (by decide +kernel) ⟨Nat.le_of_ble_eq_true rfl, Nat.le_of_ble_eq_true rfl⟩
  refine lv_aload_n hx hb dX2_seekBreach_0 rfl (lv_at hl 0 rfl) ?_
  refine lv_bipush (v := (-6 : Int32)) hx hb dX2_seekBreach_1 (by decide) ?_
  refine va_put (D := D) (ci := 1) (v := .int (-6 : Int32)) (ty := .int) (C := RX2) (T := TX2) (N := 9) hx hb hts iX2 tyX2 tyX2_ok nmX2 hown hK hP hD hS 0 rfl rfl 7 (by decide) fl58 (fun _ h9 => h9) rfl (by decide +kernel) rfl rfl (Nat.le_of_ble_eq_true rfl) dX2_seekBreach_3 (fun H locs hP hD hS => ?_)
  have hP : va_P D vwCl (wd_X2_seekBreach cyI cyJ cyZ a_this a_common a_anyone a_papers a_due a_mostHad a_sets v_count (-6 : Int32) v_breachGroup v_anyone v_due v_mostHad v_sets) H := hP
  have hD : va_D A (wd_X2_seekBreach cyI cyJ cyZ a_this a_common a_anyone a_papers a_due a_mostHad a_sets v_count (-6 : Int32) v_breachGroup v_anyone v_due v_mostHad v_sets) := hD
  refine lv_aload_n hx hb dX2_seekBreach_6 rfl (lv_at hl 0 rfl) ?_
  refine lv_bipush (v := (-6 : Int32)) hx hb dX2_seekBreach_7 (by decide) ?_
  refine va_put (D := D) (ci := 1) (v := .int (-6 : Int32)) (ty := .int) (C := RX2) (T := TX2) (N := 9) hx hb hts iX2 tyX2 tyX2_ok nmX2 hown hK hP hD hS 0 rfl rfl 8 (by decide) fl61 (fun _ h9 => h9) rfl (by decide +kernel) rfl rfl (Nat.le_of_ble_eq_true rfl) dX2_seekBreach_9 (fun H locs hP hD hS => ?_)
  have hP : va_P D vwCl (wd_X2_seekBreach cyI cyJ cyZ a_this a_common a_anyone a_papers a_due a_mostHad a_sets v_count (-6 : Int32) (-6 : Int32) v_anyone v_due v_mostHad v_sets) H := hP
  have hD : va_D A (wd_X2_seekBreach cyI cyJ cyZ a_this a_common a_anyone a_papers a_due a_mostHad a_sets v_count (-6 : Int32) (-6 : Int32) v_anyone v_due v_mostHad v_sets) := hD
  refine lv_iload_n hx hb dX2_seekBreach_12 rfl (lv_at hl 1 rfl) ?_
  refine lv_iconst (v := (1 : Int32)) hx hb dX2_seekBreach_13 (by decide) ?_
  refine lv_icmp_eq (tgt := 22) hx hb dX2_seekBreach_14 (by decide) (fun c1 => ?_) (fun c1 => ?_)
  · have hf := ob_pos c1 hf
    refine lv_iconst (v := (1 : Int32)) hx hb dX2_seekBreach_22 (by decide) ?_
    refine lv_istore_n (lv' := [(3, .int (1 : Int32)), (0, .ref a_this), (1, .int x1), (2, .int x2)]) hx hb dX2_seekBreach_23 rfl hl (by decide) rfl (fun ls hl => ?_)
    obtain ⟨q43, hq43, hf⟩ := ob_bind hf
    refine wl_X2_seekBreach_24 C FU (1 : Int32) (-6 : Int32) (-6 : Int32) _ _ _ _ hq43 (fun H locs ls hP hD hS hl => ?_) hP hD hS (lv_sub hl [1, 2, 3, 0] rfl)
    obtain rfl := Option.some.inj hf
    exact hret _ _ _ _ dX2_seekBreach_142 hP hD hS
  · have hf := ob_neg c1 hf
    refine lv_aload_n hx hb dX2_seekBreach_17 rfl (lv_at hl 0 rfl) ?_
    refine lv_iload_n hx hb dX2_seekBreach_18 rfl (lv_at hl 2 rfl) ?_
    obtain ⟨q44, hq44, hf⟩ := ob_bind hf
    refine k_Vv (wo := (wd_X2_seekBreach cyI cyJ cyZ a_this a_common a_anyone a_papers a_due a_mostHad a_sets v_count (-6 : Int32) (-6 : Int32) v_anyone v_due q44 v_sets)) (As := [.int x2]) (rest := []) C (c_X2_countMostHad l D cyI cyJ cyZ a_this a_common a_anyone a_papers a_due a_mostHad a_sets v_count (-6 : Int32) (-6 : Int32) v_mostHad v_sets x2 q44 hq44) cw64 hP hD hS [0, 3, 4] [1, 2] [2, 0, 1, 3, 4] rfl rfl rfl (by decide) 0 (ci := 1) rfl rfl rfl rfl rfl hl.1 (Nat.le_of_ble_eq_true rfl) dX2_seekBreach_19 ⟨Nat.zero_le _, Nat.zero_le _⟩ (fun H locs hP hD hS => ?_)
    refine lv_iconst (v := (1 : Int32)) hx hb dX2_seekBreach_22 (by decide) ?_
    refine lv_istore_n (lv' := [(3, .int (1 : Int32)), (0, .ref a_this), (1, .int x1), (2, .int x2)]) hx hb dX2_seekBreach_23 rfl hl (by decide) rfl (fun ls hl => ?_)
    obtain ⟨q45, hq45, hf⟩ := ob_bind hf
    refine wl_X2_seekBreach_24 C FU (1 : Int32) (-6 : Int32) (-6 : Int32) _ _ _ _ hq45 (fun H locs ls hP hD hS hl => ?_) hP hD hS (lv_sub hl [1, 2, 3, 0] rfl)
    obtain rfl := Option.some.inj hf
    exact hret _ _ _ _ dX2_seekBreach_142 hP hD hS
abbrev rm_X0_keepThoseThatHold : Room := { frames := 4, cells := 0, slots := 0, locals := 89 }
abbrev wd_X0_keepThoseThatHold (cyI cyJ cyZ : ClassId) (a_G a_G_common a_G_anyone a_G_papers a_G_due a_G_mostHad a_G_sets a_this a_row : Nat) (v_G_count : Int32) (v_G_breachSize : Int32) (v_G_breachGroup : Int32) (v_count : Int32) (v_G_anyone : Nat → Int32) (v_G_due : Nat → Int32) (v_G_mostHad : Nat → Int32) (v_G_sets : Nat → Int32) (v_row : Nat → Int32) : va_W := [(a_G, .inr (1, [.ref a_G_common, .ref a_G_anyone, .ref a_G_papers, .ref a_G_due, .ref a_G_mostHad, .ref a_G_sets, .int v_G_count, .int v_G_breachSize, .int v_G_breachGroup])), (a_this, .inr (0, [.ref a_row, .int v_count])), (a_G_anyone, .inl (cyI, 64, .inl v_G_anyone)), (a_G_due, .inl (cyI, 64, .inl v_G_due)), (a_G_mostHad, .inl (cyI, 64, .inl v_G_mostHad)), (a_G_sets, .inl (cyI, 6, .inl v_G_sets)), (a_row, .inl (cyI, 70, .inl v_row))]
def lp_X0_keepThoseThatHold_5 (y2 : Int32) (v_G_count : Int32) (v_count : Int32) (v_G_anyone : Nat → Int32) (v_G_due : Nat → Int32) (v_G_sets : Nat → Int32) : Nat → Int32 → Int32 → Int32 → Int32 → (Nat → Int32) → (Nat → Int32) → Option (Int32 × Int32 × Int32 × (Nat → Int32) × (Nat → Int32))
  | 0, _, _, _, _, _, _ => none
  | n + 1, y3, y4, v_G_breachSize, v_G_breachGroup, v_G_mostHad, v_row => (if v_count ≤ y4 then some (y3, v_G_breachSize, v_G_breachGroup, v_G_mostHad, v_row) else (if ob_in y4 70 = true then (f_X2_seekBreach y2 (v_row y4.toNatClampNeg) v_G_count v_G_breachSize v_G_breachGroup v_G_anyone v_G_due v_G_mostHad v_G_sets).bind (fun q3 => (if q3.1 = (-6 : Int32) then (if ob_in y4 70 = true then (if ob_in y3 70 = true then lp_X0_keepThoseThatHold_5 y2 v_G_count v_count v_G_anyone v_G_due v_G_sets n (y3 + (1 : Int32)) (y4 + (1 : Int32)) q3.1 q3.2.1 q3.2.2 (upd v_row y3.toNatClampNeg (v_row y4.toNatClampNeg)) else none) else none) else lp_X0_keepThoseThatHold_5 y2 v_G_count v_count v_G_anyone v_G_due v_G_sets n y3 (y4 + (1 : Int32)) q3.1 q3.2.1 q3.2.2 v_row)) else none))
def f_X0_keepThoseThatHold (x2 : Int32) (v_G_count : Int32) (v_G_breachSize : Int32) (v_G_breachGroup : Int32) (v_count : Int32) (v_G_anyone : Nat → Int32) (v_G_due : Nat → Int32) (v_G_mostHad : Nat → Int32) (v_G_sets : Nat → Int32) (v_row : Nat → Int32) : Option (Int32 × Int32 × Int32 × (Nat → Int32) × (Nat → Int32)) := (lp_X0_keepThoseThatHold_5 x2 v_G_count v_count v_G_anyone v_G_due v_G_sets FU (0 : Int32) (0 : Int32) v_G_breachSize v_G_breachGroup v_G_mostHad v_row).bind (fun q7 => some (q7.2.1, q7.2.2.1, q7.1, q7.2.2.2.1, q7.2.2.2.2))
set_option maxHeartbeats 4000000 in
set_option maxRecDepth 100000 in
theorem wl_X0_keepThoseThatHold_5 {p : Program} {l : Launch} {e : Env} {s : State} {m : MethodId} {args : Array Value} {below : List Frame} {meth : Method} {c : Code} {A : Nat → Prop} {Q : State → Prop} {D : va_G} {cyI cyJ cyZ : ClassId} {a_G a_G_common a_G_anyone a_G_papers a_G_due a_G_mostHad a_G_sets a_this a_row : Nat} {y2 : Int32} {v_G_count : Int32} {v_count : Int32} {v_G_anyone : Nat → Int32} {v_G_due : Nat → Int32} {v_G_sets : Nat → Int32} (C : kC p s m args c cX0_keepThoseThatHold 5 RX0 wsX0_keepThoseThatHold D (kTy cyI cyJ cyZ) A) :
    ∀ (n : Nat) (y3 : Int32) (y4 : Int32) (v_G_breachSize : Int32) (v_G_breachGroup : Int32) (v_G_mostHad : Nat → Int32) (v_row : Nat → Int32) (q : Int32 × Int32 × Int32 × (Nat → Int32) × (Nat → Int32)) (H : Heap) (locs : List Loc) (ls : Array Slot), lp_X0_keepThoseThatHold_5 y2 v_G_count v_count v_G_anyone v_G_due v_G_sets n y3 y4 v_G_breachSize v_G_breachGroup v_G_mostHad v_row = some q → (∀ (H : Heap) (locs : List Loc) (ls : Array Slot), va_P D vwCl (wd_X0_keepThoseThatHold cyI cyJ cyZ a_G a_G_common a_G_anyone a_G_papers a_G_due a_G_mostHad a_G_sets a_this a_row v_G_count q.2.1 q.2.2.1 v_count v_G_anyone v_G_due q.2.2.2.1 v_G_sets q.2.2.2.2) H → va_D A (wd_X0_keepThoseThatHold cyI cyJ cyZ a_G a_G_common a_G_anyone a_G_papers a_G_due a_G_mostHad a_G_sets a_this a_row v_G_count q.2.1 q.2.2.1 v_count v_G_anyone v_G_due q.2.2.2.1 v_G_sets q.2.2.2.2) → va_S A s.heap H locs → lv_has ls 5 [(0, .ref a_this), (3, .int q.1)] → W p l e rm_X0_keepThoseThatHold s m args below meth c H locs 0 0 Q (F0 m 57 ls [])) → va_P D vwCl (wd_X0_keepThoseThatHold cyI cyJ cyZ a_G a_G_common a_G_anyone a_G_papers a_G_due a_G_mostHad a_G_sets a_this a_row v_G_count v_G_breachSize v_G_breachGroup v_count v_G_anyone v_G_due v_G_mostHad v_G_sets v_row) H → va_D A (wd_X0_keepThoseThatHold cyI cyJ cyZ a_G a_G_common a_G_anyone a_G_papers a_G_due a_G_mostHad a_G_sets a_this a_row v_G_count v_G_breachSize v_G_breachGroup v_count v_G_anyone v_G_due v_G_mostHad v_G_sets v_row) → va_S A s.heap H locs → lv_has ls 5 [(0, .ref a_this), (1, .ref a_G), (2, .int y2), (3, .int y3), (4, .int y4)] → W p l e rm_X0_keepThoseThatHold s m args below meth c H locs 0 0 Q (F0 m 5 ls []) := by
  obtain ⟨hx, hb, hml, hown, hts, hK, hA⟩ := id C
  have iX0 : ∀ w ∈ u_ws RX0 TX0 2, w ∈ wsX0_keepThoseThatHold := by decide +kernel
  have iX2 : ∀ w ∈ u_ws RX2 TX2 9, w ∈ wsX0_keepThoseThatHold := by decide +kernel
  have fl9 := hts (.fieldLink RX0 9 "FairSeats$Committees" "row" "[I") (by decide +kernel)
  have fl15 := hts (.fieldLink RX0 15 "FairSeats$Committees" "count" "I") (by decide +kernel)
  have fl37 := hts (.fieldLink RX0 37 "FairSeats$Groups" "breachSize" "I") (by decide +kernel)
  have cw31 := cwV (R := rm_X0_keepThoseThatHold) (rm := rm_X2_seekBreach) 2 hts gX0_keepThoseThatHold_X2_seekBreach rfl rfl rfl (by decide +kernel) ⟨Nat.le_of_ble_eq_true rfl, Nat.le_of_ble_eq_true rfl⟩
  intro n
  induction n with
  | zero =>
    intro y3 y4 v_G_breachSize v_G_breachGroup v_G_mostHad v_row q H locs ls hf K hP hD hS hl
    rw [lp_X0_keepThoseThatHold_5] at hf
    cases hf
  | succ n ih =>
    intro y3 y4 v_G_breachSize v_G_breachGroup v_G_mostHad v_row q H locs ls hf K hP hD hS hl
    rw [lp_X0_keepThoseThatHold_5] at hf
    refine lv_iload hx hb dX0_keepThoseThatHold_5 (lv_at hl 4 rfl) ?_
    refine lv_aload_n hx hb dX0_keepThoseThatHold_7 rfl (lv_at hl 0 rfl) ?_
    refine va_get (D := D) (ci := 0) (v := .int v_count) (C := RX0) (T := TX0) (N := 2) hx hb hts iX0 hown hK hP 1 rfl rfl 1 (by decide) fl15 (fun _ h9 => h9) rfl dX0_keepThoseThatHold_8 ?_
    refine lv_icmp_ge (tgt := 57) hx hb dX0_keepThoseThatHold_11 (by decide) (fun c1 => ?_) (fun c1 => ?_)
    · have hf := ob_pos c1 hf
      obtain rfl := Option.some.inj hf
      exact K _ _ _ hP hD hS (lv_sub hl [0, 3] rfl)
    · have hf := ob_neg c1 hf
      refine lv_aload_n hx hb dX0_keepThoseThatHold_14 rfl (lv_at hl 1 rfl) ?_
      refine lv_iload_n hx hb dX0_keepThoseThatHold_15 rfl (lv_at hl 2 rfl) ?_
      refine lv_aload_n hx hb dX0_keepThoseThatHold_16 rfl (lv_at hl 0 rfl) ?_
      refine va_get (D := D) (ci := 0) (v := .ref a_row) (C := RX0) (T := TX0) (N := 2) hx hb hts iX0 hown hK hP 1 rfl rfl 0 (by decide) fl9 (fun _ h9 => h9) rfl dX0_keepThoseThatHold_17 ?_
      refine lv_iload hx hb dX0_keepThoseThatHold_20 (lv_at hl 4 rfl) ?_
      obtain ⟨h2, hf⟩ := og_in hf
      refine va_iald hx hb hK hP 6 0 rfl rfl h2 dX0_keepThoseThatHold_22 ?_
      obtain ⟨q3, hq3, hf⟩ := ob_bind hf
      refine k_Vv (wo := (wd_X0_keepThoseThatHold cyI cyJ cyZ a_G a_G_common a_G_anyone a_G_papers a_G_due a_G_mostHad a_G_sets a_this a_row v_G_count q3.1 q3.2.1 v_count v_G_anyone v_G_due q3.2.2 v_G_sets v_row)) (As := [.int y2, .int (v_row y4.toNatClampNeg)]) (rest := []) C (c_X2_seekBreach l D cyI cyJ cyZ a_G a_G_common a_G_anyone a_G_papers a_G_due a_G_mostHad a_G_sets v_G_count v_G_breachSize v_G_breachGroup v_G_anyone v_G_due v_G_mostHad v_G_sets y2 (v_row y4.toNatClampNeg) q3 hq3) cw31 hP hD hS [0, 2, 3, 4, 5] [1, 6] [2, 0, 3, 4, 5, 6, 1] rfl rfl rfl (by decide) 0 (ci := 1) rfl rfl rfl rfl rfl hl.1 (Nat.le_of_ble_eq_true rfl) dX0_keepThoseThatHold_23 ⟨Nat.zero_le _, Nat.zero_le _⟩ (fun H locs hP hD hS => ?_)
      refine lv_aload_n hx hb dX0_keepThoseThatHold_26 rfl (lv_at hl 1 rfl) ?_
      refine va_get (D := D) (ci := 1) (v := .int q3.1) (C := RX2) (T := TX2) (N := 9) hx hb hts iX2 hown hK hP 0 rfl rfl 7 (by decide) fl37 (fun _ h9 => h9) rfl dX0_keepThoseThatHold_27 ?_
      refine lv_bipush (v := (-6 : Int32)) hx hb dX0_keepThoseThatHold_30 (by decide) ?_
      refine lv_icmp_ne (tgt := 51) hx hb dX0_keepThoseThatHold_32 (by decide) (fun c4 => ?_) (fun c4 => ?_)
      · have hf := ob_neg c4 hf
        refine lv_iinc (v := (y4 + (1 : Int32))) (lv' := [(4, .int (y4 + (1 : Int32))), (0, .ref a_this), (1, .ref a_G), (2, .int y2), (3, .int y3)]) hx hb dX0_keepThoseThatHold_51 hl (k := 4) rfl rfl (by decide) rfl (fun ls hl => ?_)
        refine lv_goto (tgt := 5) hx hb dX0_keepThoseThatHold_54 (by decide) ?_
        exact ih y3 (y4 + (1 : Int32)) q3.1 q3.2.1 q3.2.2 v_row _ _ _ _ hf K hP hD hS (lv_sub hl [1, 2, 3, 4, 0] rfl)
      · have hf := ob_pos c4 hf
        refine lv_aload_n hx hb dX0_keepThoseThatHold_35 rfl (lv_at hl 0 rfl) ?_
        refine va_get (D := D) (ci := 0) (v := .ref a_row) (C := RX0) (T := TX0) (N := 2) hx hb hts iX0 hown hK hP 1 rfl rfl 0 (by decide) fl9 (fun _ h9 => h9) rfl dX0_keepThoseThatHold_36 ?_
        refine lv_iload_n hx hb dX0_keepThoseThatHold_39 rfl (lv_at hl 3 rfl) ?_
        refine lv_aload_n hx hb dX0_keepThoseThatHold_40 rfl (lv_at hl 0 rfl) ?_
        refine va_get (D := D) (ci := 0) (v := .ref a_row) (C := RX0) (T := TX0) (N := 2) hx hb hts iX0 hown hK hP 1 rfl rfl 0 (by decide) fl9 (fun _ h9 => h9) rfl dX0_keepThoseThatHold_41 ?_
        refine lv_iload hx hb dX0_keepThoseThatHold_44 (lv_at hl 4 rfl) ?_
        obtain ⟨h5, hf⟩ := og_in hf
        refine va_iald hx hb hK hP 6 0 rfl rfl h5 dX0_keepThoseThatHold_46 ?_
        obtain ⟨h6, hf⟩ := og_in hf
        refine va_iast hx hb hK hP hD hS 6 0 rfl rfl h6 dX0_keepThoseThatHold_47 (fun H locs hP hD hS => ?_)
        have hP : va_P D vwCl (wd_X0_keepThoseThatHold cyI cyJ cyZ a_G a_G_common a_G_anyone a_G_papers a_G_due a_G_mostHad a_G_sets a_this a_row v_G_count q3.1 q3.2.1 v_count v_G_anyone v_G_due q3.2.2 v_G_sets (upd v_row y3.toNatClampNeg (v_row y4.toNatClampNeg))) H := hP
        have hD : va_D A (wd_X0_keepThoseThatHold cyI cyJ cyZ a_G a_G_common a_G_anyone a_G_papers a_G_due a_G_mostHad a_G_sets a_this a_row v_G_count q3.1 q3.2.1 v_count v_G_anyone v_G_due q3.2.2 v_G_sets (upd v_row y3.toNatClampNeg (v_row y4.toNatClampNeg))) := hD
        refine lv_iinc (v := (y3 + (1 : Int32))) (lv' := [(3, .int (y3 + (1 : Int32))), (0, .ref a_this), (1, .ref a_G), (2, .int y2), (4, .int y4)]) hx hb dX0_keepThoseThatHold_48 hl (k := 3) rfl rfl (by decide) rfl (fun ls hl => ?_)
        refine lv_iinc (v := (y4 + (1 : Int32))) (lv' := [(4, .int (y4 + (1 : Int32))), (3, .int (y3 + (1 : Int32))), (0, .ref a_this), (1, .ref a_G), (2, .int y2)]) hx hb dX0_keepThoseThatHold_51 hl (k := 4) rfl rfl (by decide) rfl (fun ls hl => ?_)
        refine lv_goto (tgt := 5) hx hb dX0_keepThoseThatHold_54 (by decide) ?_
        exact ih (y3 + (1 : Int32)) (y4 + (1 : Int32)) q3.1 q3.2.1 q3.2.2 (upd v_row y3.toNatClampNeg (v_row y4.toNatClampNeg)) _ _ _ _ hf K hP hD hS (lv_sub hl [2, 3, 4, 1, 0] rfl)
set_option maxHeartbeats 4000000 in
set_option maxRecDepth 100000 in
theorem c_X0_keepThoseThatHold (l : Launch) (D : va_G) (cyI cyJ cyZ : ClassId) (a_G a_G_common a_G_anyone a_G_papers a_G_due a_G_mostHad a_G_sets a_this a_row : Nat) (v_G_count : Int32) (v_G_breachSize : Int32) (v_G_breachGroup : Int32) (v_count : Int32) (v_G_anyone : Nat → Int32) (v_G_due : Nat → Int32) (v_G_mostHad : Nat → Int32) (v_G_sets : Nat → Int32) (v_row : Nat → Int32) (x2 : Int32) (q : Int32 × Int32 × Int32 × (Nat → Int32) × (Nat → Int32)) (hf : f_X0_keepThoseThatHold x2 v_G_count v_G_breachSize v_G_breachGroup v_count v_G_anyone v_G_due v_G_mostHad v_G_sets v_row = some q) : kMv l yX0_keepThoseThatHold wsX0_keepThoseThatHold rm_X0_keepThoseThatHold D (kTy cyI cyJ cyZ) [.ref a_this, .ref a_G, .int x2] (wd_X0_keepThoseThatHold cyI cyJ cyZ a_G a_G_common a_G_anyone a_G_papers a_G_due a_G_mostHad a_G_sets a_this a_row v_G_count v_G_breachSize v_G_breachGroup v_count v_G_anyone v_G_due v_G_mostHad v_G_sets v_row) (wd_X0_keepThoseThatHold cyI cyJ cyZ a_G a_G_common a_G_anyone a_G_papers a_G_due a_G_mostHad a_G_sets a_this a_row v_G_count q.1 q.2.1 q.2.2.1 v_G_anyone v_G_due q.2.2.2.1 v_G_sets q.2.2.2.2) := by
  refine kMv_of (cc := cX0_keepThoseThatHold) (nL := 5) (own := RX0) (by decide) rfl rfl (Nat.le_of_ble_eq_true rfl) ?_
  intro p e s m below meth c A Q ls C hret hP hD hS hl
  have hl : lv_has ls 5 [(0, .ref a_this), (1, .ref a_G), (2, .int x2)] := hl
  unfold f_X0_keepThoseThatHold at hf
  obtain ⟨hx, hb, hml, hown, hts, hK, hA⟩ := id C
  have iX0 : ∀ w ∈ u_ws RX0 TX0 2, w ∈ wsX0_keepThoseThatHold := by decide +kernel
  have fl15 := hts (.fieldLink RX0 15 "FairSeats$Committees" "count" "I") (by decide +kernel)
  refine lv_iconst (v := (0 : Int32)) hx hb dX0_keepThoseThatHold_0 (by decide) ?_
  refine lv_istore_n (lv' := [(3, .int (0 : Int32)), (0, .ref a_this), (1, .ref a_G), (2, .int x2)]) hx hb dX0_keepThoseThatHold_1 rfl hl (by decide) rfl (fun ls hl => ?_)
  refine lv_iconst (v := (0 : Int32)) hx hb dX0_keepThoseThatHold_2 (by decide) ?_
  refine lv_istore (lv' := [(4, .int (0 : Int32)), (3, .int (0 : Int32)), (0, .ref a_this), (1, .ref a_G), (2, .int x2)]) hx hb dX0_keepThoseThatHold_3 hl (by decide) rfl (fun ls hl => ?_)
  obtain ⟨q7, hq7, hf⟩ := ob_bind hf
  refine wl_X0_keepThoseThatHold_5 C FU (0 : Int32) (0 : Int32) v_G_breachSize v_G_breachGroup v_G_mostHad v_row _ _ _ _ hq7 (fun H locs ls hP hD hS hl => ?_) hP hD hS (lv_sub hl [2, 3, 4, 1, 0] rfl)
  refine lv_aload_n hx hb dX0_keepThoseThatHold_57 rfl (lv_at hl 0 rfl) ?_
  refine lv_iload_n hx hb dX0_keepThoseThatHold_58 rfl (lv_at hl 1 rfl) ?_
  refine va_put (D := D) (ci := 0) (v := .int q7.1) (ty := .int) (C := RX0) (T := TX0) (N := 2) hx hb hts iX0 tyX0 tyX0_ok nmX0 hown hK hP hD hS 1 rfl rfl 1 (by decide) fl15 (fun _ h9 => h9) rfl (by decide +kernel) rfl rfl (Nat.le_of_ble_eq_true rfl) dX0_keepThoseThatHold_59 (fun H locs hP hD hS => ?_)
  have hP : va_P D vwCl (wd_X0_keepThoseThatHold cyI cyJ cyZ a_G a_G_common a_G_anyone a_G_papers a_G_due a_G_mostHad a_G_sets a_this a_row v_G_count q7.2.1 q7.2.2.1 q7.1 v_G_anyone v_G_due q7.2.2.2.1 v_G_sets q7.2.2.2.2) H := hP
  have hD : va_D A (wd_X0_keepThoseThatHold cyI cyJ cyZ a_G a_G_common a_G_anyone a_G_papers a_G_due a_G_mostHad a_G_sets a_this a_row v_G_count q7.2.1 q7.2.2.1 q7.1 v_G_anyone v_G_due q7.2.2.2.1 v_G_sets q7.2.2.2.2) := hD
  obtain rfl := Option.some.inj hf
  exact hret _ _ _ _ dX0_keepThoseThatHold_62 hP hD hS
abbrev rm_X0_at : Room := { frames := 0, cells := 0, slots := 0, locals := 0 }
abbrev wd_X0_at (cyI cyJ cyZ : ClassId) (a_this a_row : Nat) (v_count : Int32) (v_row : Nat → Int32) : va_W := [(a_this, .inr (0, [.ref a_row, .int v_count])), (a_row, .inl (cyI, 70, .inl v_row))]
def f_X0_at (x1 : Int32) (v_count : Int32) (v_row : Nat → Int32) : Option (Int32) := (if x1 < 0 then some (-6 : Int32) else (if v_count ≤ x1 then some (-6 : Int32) else (if (70 : Int32) ≤ x1 then some (-6 : Int32) else (if ob_in x1 70 = true then some (v_row x1.toNatClampNeg) else none))))
set_option maxHeartbeats 4000000 in
set_option maxRecDepth 100000 in
theorem c_X0_at (l : Launch) (D : va_G) (cyI cyJ cyZ : ClassId) (a_this a_row : Nat) (v_count : Int32) (v_row : Nat → Int32) (x1 : Int32) (q : Int32) (hf : f_X0_at x1 v_count v_row = some q) : kMi l yX0_at wsX0_at rm_X0_at D (kTy cyI cyJ cyZ) [.ref a_this, .int x1] (wd_X0_at cyI cyJ cyZ a_this a_row v_count v_row) (wd_X0_at cyI cyJ cyZ a_this a_row v_count v_row) q := by
  refine kMi_of (cc := cX0_at) (nL := 2) (own := RX0) (by decide) rfl rfl (Nat.le_of_ble_eq_true rfl) ?_
  intro p e s m below meth c A Q ls C hret hP hD hS hl
  have hl : lv_has ls 2 [(0, .ref a_this), (1, .int x1)] := hl
  unfold f_X0_at at hf
  obtain ⟨hx, hb, hml, hown, hts, hK, hA⟩ := id C
  have iX0 : ∀ w ∈ u_ws RX0 TX0 2, w ∈ wsX0_at := by decide +kernel
  have fl9 := hts (.fieldLink RX0 9 "FairSeats$Committees" "row" "[I") (by decide +kernel)
  have fl15 := hts (.fieldLink RX0 15 "FairSeats$Committees" "count" "I") (by decide +kernel)
  refine lv_iload_n hx hb dX0_at_0 rfl (lv_at hl 1 rfl) ?_
  refine lv_if_lt (tgt := 27) hx hb dX0_at_1 (by decide) (fun c1 => ?_) (fun c1 => ?_)
  · have hf := ob_pos c1 hf
    refine lv_bipush (v := (-6 : Int32)) hx hb dX0_at_27 (by decide) ?_
    obtain rfl := Option.some.inj hf
    exact hret _ _ _ _ dX0_at_29 hP hD hS
  · have hf := ob_neg c1 hf
    refine lv_iload_n hx hb dX0_at_4 rfl (lv_at hl 1 rfl) ?_
    refine lv_aload_n hx hb dX0_at_5 rfl (lv_at hl 0 rfl) ?_
    refine va_get (D := D) (ci := 0) (v := .int v_count) (C := RX0) (T := TX0) (N := 2) hx hb hts iX0 hown hK hP 0 rfl rfl 1 (by decide) fl15 (fun _ h9 => h9) rfl dX0_at_6 ?_
    refine lv_icmp_ge (tgt := 27) hx hb dX0_at_9 (by decide) (fun c2 => ?_) (fun c2 => ?_)
    · have hf := ob_pos c2 hf
      refine lv_bipush (v := (-6 : Int32)) hx hb dX0_at_27 (by decide) ?_
      obtain rfl := Option.some.inj hf
      exact hret _ _ _ _ dX0_at_29 hP hD hS
    · have hf := ob_neg c2 hf
      refine lv_iload_n hx hb dX0_at_12 rfl (lv_at hl 1 rfl) ?_
      refine lv_bipush (v := (70 : Int32)) hx hb dX0_at_13 (by decide) ?_
      refine lv_icmp_ge (tgt := 27) hx hb dX0_at_15 (by decide) (fun c3 => ?_) (fun c3 => ?_)
      · have hf := ob_pos c3 hf
        refine lv_bipush (v := (-6 : Int32)) hx hb dX0_at_27 (by decide) ?_
        obtain rfl := Option.some.inj hf
        exact hret _ _ _ _ dX0_at_29 hP hD hS
      · have hf := ob_neg c3 hf
        refine lv_aload_n hx hb dX0_at_18 rfl (lv_at hl 0 rfl) ?_
        refine va_get (D := D) (ci := 0) (v := .ref a_row) (C := RX0) (T := TX0) (N := 2) hx hb hts iX0 hown hK hP 0 rfl rfl 0 (by decide) fl9 (fun _ h9 => h9) rfl dX0_at_19 ?_
        refine lv_iload_n hx hb dX0_at_22 rfl (lv_at hl 1 rfl) ?_
        obtain ⟨h4, hf⟩ := og_in hf
        refine va_iald hx hb hK hP 1 0 rfl rfl h4 dX0_at_23 ?_
        refine lv_goto (tgt := 29) hx hb dX0_at_24 (by decide) ?_
        obtain rfl := Option.some.inj hf
        exact hret _ _ _ _ dX0_at_29 hP hD hS
abbrev rm_X0_leastWronged : Room := { frames := 1, cells := 0, slots := 0, locals := 23 }
abbrev wd_X0_leastWronged (cyI cyJ cyZ : ClassId) (a_H a_H_sets a_H_papers a_H_worths a_this a_row : Nat) (v_H_count : Int32) (v_count : Int32) (v_H_papers : Nat → Int32) (v_H_sets : Nat → Int32) (v_row : Nat → Int32) : va_W := [(a_H, .inr (2, [.ref a_H_sets, .ref a_H_papers, .ref a_H_worths, .int v_H_count])), (a_this, .inr (0, [.ref a_row, .int v_count])), (a_H_papers, .inl (cyI, 7, .inl v_H_papers)), (a_H_sets, .inl (cyI, 7, .inl v_H_sets)), (a_row, .inl (cyI, 70, .inl v_row))]
def lp_X0_leastWronged_8 (v_H_count : Int32) (v_count : Int32) (v_H_papers : Nat → Int32) (v_H_sets : Nat → Int32) (v_row : Nat → Int32) : Nat → Int32 → Int32 → Int32 → Option (Int32)
  | 0, _, _, _ => none
  | n + 1, y2, y3, y4 => (if v_count ≤ y4 then some y2 else (if ob_in y4 70 = true then (f_X3_wronged (v_row y4.toNatClampNeg) v_H_count v_H_papers v_H_sets).bind (fun q3 => (if y2 = (-6 : Int32) then (if ob_in y4 70 = true then lp_X0_leastWronged_8 v_H_count v_count v_H_papers v_H_sets v_row n (v_row y4.toNatClampNeg) q3 (y4 + (1 : Int32)) else none) else (if y3 ≤ q3 then lp_X0_leastWronged_8 v_H_count v_count v_H_papers v_H_sets v_row n y2 y3 (y4 + (1 : Int32)) else (if ob_in y4 70 = true then lp_X0_leastWronged_8 v_H_count v_count v_H_papers v_H_sets v_row n (v_row y4.toNatClampNeg) q3 (y4 + (1 : Int32)) else none)))) else none))
def f_X0_leastWronged (v_H_count : Int32) (v_count : Int32) (v_H_papers : Nat → Int32) (v_H_sets : Nat → Int32) (v_row : Nat → Int32) : Option (Int32) := (lp_X0_leastWronged_8 v_H_count v_count v_H_papers v_H_sets v_row FU (-6 : Int32) (0 : Int32) (0 : Int32)).bind (fun q8 => some q8)
set_option maxHeartbeats 4000000 in
set_option maxRecDepth 100000 in
theorem wl_X0_leastWronged_8 {p : Program} {l : Launch} {e : Env} {s : State} {m : MethodId} {args : Array Value} {below : List Frame} {meth : Method} {c : Code} {A : Nat → Prop} {Q : State → Prop} {D : va_G} {cyI cyJ cyZ : ClassId} {a_H a_H_sets a_H_papers a_H_worths a_this a_row : Nat} {v_H_count : Int32} {v_count : Int32} {v_H_papers : Nat → Int32} {v_H_sets : Nat → Int32} {v_row : Nat → Int32} (C : kC p s m args c cX0_leastWronged 6 RX0 wsX0_leastWronged D (kTy cyI cyJ cyZ) A) :
    ∀ (n : Nat) (y2 : Int32) (y3 : Int32) (y4 : Int32) (q : Int32) (H : Heap) (locs : List Loc) (ls : Array Slot), lp_X0_leastWronged_8 v_H_count v_count v_H_papers v_H_sets v_row n y2 y3 y4 = some q → (∀ (H : Heap) (locs : List Loc) (ls : Array Slot), va_P D vwCl (wd_X0_leastWronged cyI cyJ cyZ a_H a_H_sets a_H_papers a_H_worths a_this a_row v_H_count v_count v_H_papers v_H_sets v_row) H → va_D A (wd_X0_leastWronged cyI cyJ cyZ a_H a_H_sets a_H_papers a_H_worths a_this a_row v_H_count v_count v_H_papers v_H_sets v_row) → va_S A s.heap H locs → lv_has ls 6 [(2, .int q)] → W p l e rm_X0_leastWronged s m args below meth c H locs 0 0 Q (F0 m 59 ls [])) → va_P D vwCl (wd_X0_leastWronged cyI cyJ cyZ a_H a_H_sets a_H_papers a_H_worths a_this a_row v_H_count v_count v_H_papers v_H_sets v_row) H → va_D A (wd_X0_leastWronged cyI cyJ cyZ a_H a_H_sets a_H_papers a_H_worths a_this a_row v_H_count v_count v_H_papers v_H_sets v_row) → va_S A s.heap H locs → lv_has ls 6 [(0, .ref a_this), (1, .ref a_H), (2, .int y2), (3, .int y3), (4, .int y4)] → W p l e rm_X0_leastWronged s m args below meth c H locs 0 0 Q (F0 m 8 ls []) := by
  obtain ⟨hx, hb, hml, hown, hts, hK, hA⟩ := id C
  have iX0 : ∀ w ∈ u_ws RX0 TX0 2, w ∈ wsX0_leastWronged := by decide +kernel
  have fl9 := hts (.fieldLink RX0 9 "FairSeats$Committees" "row" "[I") (by decide +kernel)
  have fl15 := hts (.fieldLink RX0 15 "FairSeats$Committees" "count" "I") (by decide +kernel)
  have cw45 := cwV (R := rm_X0_leastWronged) (rm := rm_X3_wronged) 1 hts gX0_leastWronged_X3_wronged rfl rfl rfl (by decide +kernel) ⟨Nat.le_of_ble_eq_true rfl, Nat.le_of_ble_eq_true rfl⟩
  intro n
  induction n with
  | zero =>
    intro y2 y3 y4 q H locs ls hf K hP hD hS hl
    rw [lp_X0_leastWronged_8] at hf
    cases hf
  | succ n ih =>
    intro y2 y3 y4 q H locs ls hf K hP hD hS hl
    rw [lp_X0_leastWronged_8] at hf
    refine lv_iload hx hb dX0_leastWronged_8 (lv_at hl 4 rfl) ?_
    refine lv_aload_n hx hb dX0_leastWronged_10 rfl (lv_at hl 0 rfl) ?_
    refine va_get (D := D) (ci := 0) (v := .int v_count) (C := RX0) (T := TX0) (N := 2) hx hb hts iX0 hown hK hP 1 rfl rfl 1 (by decide) fl15 (fun _ h9 => h9) rfl dX0_leastWronged_11 ?_
    refine lv_icmp_ge (tgt := 59) hx hb dX0_leastWronged_14 (by decide) (fun c1 => ?_) (fun c1 => ?_)
    · have hf := ob_pos c1 hf
      obtain rfl := Option.some.inj hf
      exact K _ _ _ hP hD hS (lv_sub hl [2] rfl)
    · have hf := ob_neg c1 hf
      refine lv_aload_n hx hb dX0_leastWronged_17 rfl (lv_at hl 1 rfl) ?_
      refine lv_aload_n hx hb dX0_leastWronged_18 rfl (lv_at hl 0 rfl) ?_
      refine va_get (D := D) (ci := 0) (v := .ref a_row) (C := RX0) (T := TX0) (N := 2) hx hb hts iX0 hown hK hP 1 rfl rfl 0 (by decide) fl9 (fun _ h9 => h9) rfl dX0_leastWronged_19 ?_
      refine lv_iload hx hb dX0_leastWronged_22 (lv_at hl 4 rfl) ?_
      obtain ⟨h2, hf⟩ := og_in hf
      refine va_iald hx hb hK hP 4 0 rfl rfl h2 dX0_leastWronged_24 ?_
      obtain ⟨q3, hq3, hf⟩ := ob_bind hf
      refine k_Vi (wo := (wd_X0_leastWronged cyI cyJ cyZ a_H a_H_sets a_H_papers a_H_worths a_this a_row v_H_count v_count v_H_papers v_H_sets v_row)) (As := [.int (v_row y4.toNatClampNeg)]) (rest := []) C (c_X3_wronged l D cyI cyJ cyZ a_H a_H_sets a_H_papers a_H_worths v_H_count v_H_papers v_H_sets (v_row y4.toNatClampNeg) q3 hq3) cw45 hP hD hS [0, 2, 3] [1, 4] [2, 0, 3, 4, 1] rfl rfl rfl (by decide) 0 (ci := 2) rfl rfl rfl rfl rfl hl.1 (Nat.le_of_ble_eq_true rfl) dX0_leastWronged_25 ⟨Nat.zero_le _, Nat.zero_le _⟩ (fun H locs hP hD hS => ?_)
      refine lv_istore (lv' := [(5, .int q3), (0, .ref a_this), (1, .ref a_H), (2, .int y2), (3, .int y3), (4, .int y4)]) hx hb dX0_leastWronged_28 hl (by decide) rfl (fun ls hl => ?_)
      refine lv_iload_n hx hb dX0_leastWronged_30 rfl (lv_at hl 3 rfl) ?_
      refine lv_bipush (v := (-6 : Int32)) hx hb dX0_leastWronged_31 (by decide) ?_
      refine lv_icmp_eq (tgt := 42) hx hb dX0_leastWronged_33 (by decide) (fun c4 => ?_) (fun c4 => ?_)
      · have hf := ob_pos c4 hf
        refine lv_iload hx hb dX0_leastWronged_42 (lv_at hl 0 rfl) ?_
        refine lv_istore_n (lv' := [(3, .int q3), (5, .int q3), (0, .ref a_this), (1, .ref a_H), (2, .int y2), (4, .int y4)]) hx hb dX0_leastWronged_44 rfl hl (by decide) rfl (fun ls hl => ?_)
        refine lv_aload_n hx hb dX0_leastWronged_45 rfl (lv_at hl 2 rfl) ?_
        refine va_get (D := D) (ci := 0) (v := .ref a_row) (C := RX0) (T := TX0) (N := 2) hx hb hts iX0 hown hK hP 1 rfl rfl 0 (by decide) fl9 (fun _ h9 => h9) rfl dX0_leastWronged_46 ?_
        refine lv_iload hx hb dX0_leastWronged_49 (lv_at hl 5 rfl) ?_
        obtain ⟨h5, hf⟩ := og_in hf
        refine va_iald hx hb hK hP 4 0 rfl rfl h5 dX0_leastWronged_51 ?_
        refine lv_istore_n (lv' := [(2, .int (v_row y4.toNatClampNeg)), (3, .int q3), (5, .int q3), (0, .ref a_this), (1, .ref a_H), (4, .int y4)]) hx hb dX0_leastWronged_52 rfl hl (by decide) rfl (fun ls hl => ?_)
        refine lv_iinc (v := (y4 + (1 : Int32))) (lv' := [(4, .int (y4 + (1 : Int32))), (2, .int (v_row y4.toNatClampNeg)), (3, .int q3), (5, .int q3), (0, .ref a_this), (1, .ref a_H)]) hx hb dX0_leastWronged_53 hl (k := 5) rfl rfl (by decide) rfl (fun ls hl => ?_)
        refine lv_goto (tgt := 8) hx hb dX0_leastWronged_56 (by decide) ?_
        exact ih (v_row y4.toNatClampNeg) q3 (y4 + (1 : Int32)) _ _ _ _ hf K hP hD hS (lv_sub hl [4, 5, 1, 2, 0] rfl)
      · have hf := ob_neg c4 hf
        refine lv_iload hx hb dX0_leastWronged_36 (lv_at hl 0 rfl) ?_
        refine lv_iload_n hx hb dX0_leastWronged_38 rfl (lv_at hl 4 rfl) ?_
        refine lv_icmp_ge (tgt := 53) hx hb dX0_leastWronged_39 (by decide) (fun c6 => ?_) (fun c6 => ?_)
        · have hf := ob_pos c6 hf
          refine lv_iinc (v := (y4 + (1 : Int32))) (lv' := [(4, .int (y4 + (1 : Int32))), (5, .int q3), (0, .ref a_this), (1, .ref a_H), (2, .int y2), (3, .int y3)]) hx hb dX0_leastWronged_53 hl (k := 5) rfl rfl (by decide) rfl (fun ls hl => ?_)
          refine lv_goto (tgt := 8) hx hb dX0_leastWronged_56 (by decide) ?_
          exact ih y2 y3 (y4 + (1 : Int32)) _ _ _ _ hf K hP hD hS (lv_sub hl [2, 3, 4, 5, 0] rfl)
        · have hf := ob_neg c6 hf
          refine lv_iload hx hb dX0_leastWronged_42 (lv_at hl 0 rfl) ?_
          refine lv_istore_n (lv' := [(3, .int q3), (5, .int q3), (0, .ref a_this), (1, .ref a_H), (2, .int y2), (4, .int y4)]) hx hb dX0_leastWronged_44 rfl hl (by decide) rfl (fun ls hl => ?_)
          refine lv_aload_n hx hb dX0_leastWronged_45 rfl (lv_at hl 2 rfl) ?_
          refine va_get (D := D) (ci := 0) (v := .ref a_row) (C := RX0) (T := TX0) (N := 2) hx hb hts iX0 hown hK hP 1 rfl rfl 0 (by decide) fl9 (fun _ h9 => h9) rfl dX0_leastWronged_46 ?_
          refine lv_iload hx hb dX0_leastWronged_49 (lv_at hl 5 rfl) ?_
          obtain ⟨h7, hf⟩ := og_in hf
          refine va_iald hx hb hK hP 4 0 rfl rfl h7 dX0_leastWronged_51 ?_
          refine lv_istore_n (lv' := [(2, .int (v_row y4.toNatClampNeg)), (3, .int q3), (5, .int q3), (0, .ref a_this), (1, .ref a_H), (4, .int y4)]) hx hb dX0_leastWronged_52 rfl hl (by decide) rfl (fun ls hl => ?_)
          refine lv_iinc (v := (y4 + (1 : Int32))) (lv' := [(4, .int (y4 + (1 : Int32))), (2, .int (v_row y4.toNatClampNeg)), (3, .int q3), (5, .int q3), (0, .ref a_this), (1, .ref a_H)]) hx hb dX0_leastWronged_53 hl (k := 5) rfl rfl (by decide) rfl (fun ls hl => ?_)
          refine lv_goto (tgt := 8) hx hb dX0_leastWronged_56 (by decide) ?_
          exact ih (v_row y4.toNatClampNeg) q3 (y4 + (1 : Int32)) _ _ _ _ hf K hP hD hS (lv_sub hl [4, 5, 1, 2, 0] rfl)
set_option maxHeartbeats 4000000 in
set_option maxRecDepth 100000 in
theorem c_X0_leastWronged (l : Launch) (D : va_G) (cyI cyJ cyZ : ClassId) (a_H a_H_sets a_H_papers a_H_worths a_this a_row : Nat) (v_H_count : Int32) (v_count : Int32) (v_H_papers : Nat → Int32) (v_H_sets : Nat → Int32) (v_row : Nat → Int32) (q : Int32) (hf : f_X0_leastWronged v_H_count v_count v_H_papers v_H_sets v_row = some q) : kMi l yX0_leastWronged wsX0_leastWronged rm_X0_leastWronged D (kTy cyI cyJ cyZ) [.ref a_this, .ref a_H] (wd_X0_leastWronged cyI cyJ cyZ a_H a_H_sets a_H_papers a_H_worths a_this a_row v_H_count v_count v_H_papers v_H_sets v_row) (wd_X0_leastWronged cyI cyJ cyZ a_H a_H_sets a_H_papers a_H_worths a_this a_row v_H_count v_count v_H_papers v_H_sets v_row) q := by
  refine kMi_of (cc := cX0_leastWronged) (nL := 6) (own := RX0) (by decide) rfl rfl (Nat.le_of_ble_eq_true rfl) ?_
  intro p e s m below meth c A Q ls C hret hP hD hS hl
  have hl : lv_has ls 6 [(0, .ref a_this), (1, .ref a_H)] := hl
  unfold f_X0_leastWronged at hf
  obtain ⟨hx, hb, hml, hown, hts, hK, hA⟩ := id C
  refine lv_bipush (v := (-6 : Int32)) hx hb dX0_leastWronged_0 (by decide) ?_
  refine lv_istore_n (lv' := [(2, .int (-6 : Int32)), (0, .ref a_this), (1, .ref a_H)]) hx hb dX0_leastWronged_2 rfl hl (by decide) rfl (fun ls hl => ?_)
  refine lv_iconst (v := (0 : Int32)) hx hb dX0_leastWronged_3 (by decide) ?_
  refine lv_istore_n (lv' := [(3, .int (0 : Int32)), (2, .int (-6 : Int32)), (0, .ref a_this), (1, .ref a_H)]) hx hb dX0_leastWronged_4 rfl hl (by decide) rfl (fun ls hl => ?_)
  refine lv_iconst (v := (0 : Int32)) hx hb dX0_leastWronged_5 (by decide) ?_
  refine lv_istore (lv' := [(4, .int (0 : Int32)), (3, .int (0 : Int32)), (2, .int (-6 : Int32)), (0, .ref a_this), (1, .ref a_H)]) hx hb dX0_leastWronged_6 hl (by decide) rfl (fun ls hl => ?_)
  obtain ⟨q8, hq8, hf⟩ := ob_bind hf
  refine wl_X0_leastWronged_8 C FU (-6 : Int32) (0 : Int32) (0 : Int32) _ _ _ _ hq8 (fun H locs ls hP hD hS hl => ?_) hP hD hS (lv_sub hl [3, 4, 2, 1, 0] rfl)
  refine lv_iload_n hx hb dX0_leastWronged_59 rfl (lv_at hl 0 rfl) ?_
  obtain rfl := Option.some.inj hf
  exact hret _ _ _ _ dX0_leastWronged_60 hP hD hS
abbrev rm_X0_closestTo : Room := { frames := 1, cells := 0, slots := 0, locals := 20 }
abbrev wd_X0_closestTo (cyI cyJ cyZ : ClassId) (a_this a_row : Nat) (v_count : Int32) (v_row : Nat → Int32) : va_W := [(a_this, .inr (0, [.ref a_row, .int v_count])), (a_row, .inl (cyI, 70, .inl v_row))]
def lp_X0_closestTo_8 (y1 : Int32) (v_count : Int32) (v_row : Nat → Int32) : Nat → Int32 → Int32 → Int32 → Option (Int32)
  | 0, _, _, _ => none
  | n + 1, y2, y3, y4 => (if v_count ≤ y4 then some y2 else (if ob_in y4 70 = true then (f_J6_bitCount_0f7a4 ((v_row y4.toNatClampNeg) &&& (y1 ^^^ (-1 : Int32)))).bind (fun q3 => (if y2 = (-6 : Int32) then (if ob_in y4 70 = true then lp_X0_closestTo_8 y1 v_count v_row n (v_row y4.toNatClampNeg) q3 (y4 + (1 : Int32)) else none) else (if y3 ≤ q3 then lp_X0_closestTo_8 y1 v_count v_row n y2 y3 (y4 + (1 : Int32)) else (if ob_in y4 70 = true then lp_X0_closestTo_8 y1 v_count v_row n (v_row y4.toNatClampNeg) q3 (y4 + (1 : Int32)) else none)))) else none))
def f_X0_closestTo (x1 : Int32) (v_count : Int32) (v_row : Nat → Int32) : Option (Int32) := (lp_X0_closestTo_8 x1 v_count v_row FU (-6 : Int32) (0 : Int32) (0 : Int32)).bind (fun q8 => some q8)
set_option maxHeartbeats 4000000 in
set_option maxRecDepth 100000 in
theorem wl_X0_closestTo_8 {p : Program} {l : Launch} {e : Env} {s : State} {m : MethodId} {args : Array Value} {below : List Frame} {meth : Method} {c : Code} {A : Nat → Prop} {Q : State → Prop} {D : va_G} {cyI cyJ cyZ : ClassId} {a_this a_row : Nat} {y1 : Int32} {v_count : Int32} {v_row : Nat → Int32} (C : kC p s m args c cX0_closestTo 6 RX0 wsX0_closestTo D (kTy cyI cyJ cyZ) A) :
    ∀ (n : Nat) (y2 : Int32) (y3 : Int32) (y4 : Int32) (q : Int32) (H : Heap) (locs : List Loc) (ls : Array Slot), lp_X0_closestTo_8 y1 v_count v_row n y2 y3 y4 = some q → (∀ (H : Heap) (locs : List Loc) (ls : Array Slot), va_P D vwCl (wd_X0_closestTo cyI cyJ cyZ a_this a_row v_count v_row) H → va_D A (wd_X0_closestTo cyI cyJ cyZ a_this a_row v_count v_row) → va_S A s.heap H locs → lv_has ls 6 [(2, .int q)] → W p l e rm_X0_closestTo s m args below meth c H locs 0 0 Q (F0 m 62 ls [])) → va_P D vwCl (wd_X0_closestTo cyI cyJ cyZ a_this a_row v_count v_row) H → va_D A (wd_X0_closestTo cyI cyJ cyZ a_this a_row v_count v_row) → va_S A s.heap H locs → lv_has ls 6 [(0, .ref a_this), (1, .int y1), (2, .int y2), (3, .int y3), (4, .int y4)] → W p l e rm_X0_closestTo s m args below meth c H locs 0 0 Q (F0 m 8 ls []) := by
  obtain ⟨hx, hb, hml, hown, hts, hK, hA⟩ := id C
  have iX0 : ∀ w ∈ u_ws RX0 TX0 2, w ∈ wsX0_closestTo := by decide +kernel
  have fl9 := hts (.fieldLink RX0 9 "FairSeats$Committees" "row" "[I") (by decide +kernel)
  have fl15 := hts (.fieldLink RX0 15 "FairSeats$Committees" "count" "I") (by decide +kernel)
  have cw19 := va_cwS (R := rm_X0_closestTo) (rm := rm_J6_bitCount_0f7a4) 1 hts gX0_closestTo_J6_bitCount_0f7a4 rfl rfl rfl (by decide +kernel) ⟨Nat.le_of_ble_eq_true rfl, Nat.le_of_ble_eq_true rfl⟩
  intro n
  induction n with
  | zero =>
    intro y2 y3 y4 q H locs ls hf K hP hD hS hl
    rw [lp_X0_closestTo_8] at hf
    cases hf
  | succ n ih =>
    intro y2 y3 y4 q H locs ls hf K hP hD hS hl
    rw [lp_X0_closestTo_8] at hf
    refine lv_iload hx hb dX0_closestTo_8 (lv_at hl 4 rfl) ?_
    refine lv_aload_n hx hb dX0_closestTo_10 rfl (lv_at hl 0 rfl) ?_
    refine va_get (D := D) (ci := 0) (v := .int v_count) (C := RX0) (T := TX0) (N := 2) hx hb hts iX0 hown hK hP 0 rfl rfl 1 (by decide) fl15 (fun _ h9 => h9) rfl dX0_closestTo_11 ?_
    refine lv_icmp_ge (tgt := 62) hx hb dX0_closestTo_14 (by decide) (fun c1 => ?_) (fun c1 => ?_)
    · have hf := ob_pos c1 hf
      obtain rfl := Option.some.inj hf
      exact K _ _ _ hP hD hS (lv_sub hl [2] rfl)
    · have hf := ob_neg c1 hf
      refine lv_aload_n hx hb dX0_closestTo_17 rfl (lv_at hl 0 rfl) ?_
      refine va_get (D := D) (ci := 0) (v := .ref a_row) (C := RX0) (T := TX0) (N := 2) hx hb hts iX0 hown hK hP 0 rfl rfl 0 (by decide) fl9 (fun _ h9 => h9) rfl dX0_closestTo_18 ?_
      refine lv_iload hx hb dX0_closestTo_21 (lv_at hl 4 rfl) ?_
      obtain ⟨h2, hf⟩ := og_in hf
      refine va_iald hx hb hK hP 1 0 rfl rfl h2 dX0_closestTo_23 ?_
      refine lv_iload_n hx hb dX0_closestTo_24 rfl (lv_at hl 1 rfl) ?_
      refine lv_iconst (v := (-1 : Int32)) hx hb dX0_closestTo_25 (by decide) ?_
      refine lv_ixor hx hb dX0_closestTo_26 ?_
      refine lv_iand hx hb dX0_closestTo_27 ?_
      obtain ⟨q3, hq3, hf⟩ := ob_bind hf
      refine k_Si (wo := (wd_X0_closestTo cyI cyJ cyZ a_this a_row v_count v_row)) (As := [.int ((v_row y4.toNatClampNeg) &&& (y1 ^^^ (-1 : Int32)))]) (rest := []) C (c_J6_bitCount_0f7a4 l D cyI cyJ cyZ   ((v_row y4.toNatClampNeg) &&& (y1 ^^^ (-1 : Int32))) q3 hq3) cw19 hP hD hS [] [0, 1] [0, 1] rfl rfl rfl (by decide) rfl rfl hl.1 (Nat.le_of_ble_eq_true rfl) dX0_closestTo_28 ⟨Nat.zero_le _, Nat.zero_le _⟩ (fun H locs hP hD hS => ?_)
      refine lv_istore (lv' := [(5, .int q3), (0, .ref a_this), (1, .int y1), (2, .int y2), (3, .int y3), (4, .int y4)]) hx hb dX0_closestTo_31 hl (by decide) rfl (fun ls hl => ?_)
      refine lv_iload_n hx hb dX0_closestTo_33 rfl (lv_at hl 3 rfl) ?_
      refine lv_bipush (v := (-6 : Int32)) hx hb dX0_closestTo_34 (by decide) ?_
      refine lv_icmp_eq (tgt := 45) hx hb dX0_closestTo_36 (by decide) (fun c4 => ?_) (fun c4 => ?_)
      · have hf := ob_pos c4 hf
        refine lv_iload hx hb dX0_closestTo_45 (lv_at hl 0 rfl) ?_
        refine lv_istore_n (lv' := [(3, .int q3), (5, .int q3), (0, .ref a_this), (1, .int y1), (2, .int y2), (4, .int y4)]) hx hb dX0_closestTo_47 rfl hl (by decide) rfl (fun ls hl => ?_)
        refine lv_aload_n hx hb dX0_closestTo_48 rfl (lv_at hl 2 rfl) ?_
        refine va_get (D := D) (ci := 0) (v := .ref a_row) (C := RX0) (T := TX0) (N := 2) hx hb hts iX0 hown hK hP 0 rfl rfl 0 (by decide) fl9 (fun _ h9 => h9) rfl dX0_closestTo_49 ?_
        refine lv_iload hx hb dX0_closestTo_52 (lv_at hl 5 rfl) ?_
        obtain ⟨h5, hf⟩ := og_in hf
        refine va_iald hx hb hK hP 1 0 rfl rfl h5 dX0_closestTo_54 ?_
        refine lv_istore_n (lv' := [(2, .int (v_row y4.toNatClampNeg)), (3, .int q3), (5, .int q3), (0, .ref a_this), (1, .int y1), (4, .int y4)]) hx hb dX0_closestTo_55 rfl hl (by decide) rfl (fun ls hl => ?_)
        refine lv_iinc (v := (y4 + (1 : Int32))) (lv' := [(4, .int (y4 + (1 : Int32))), (2, .int (v_row y4.toNatClampNeg)), (3, .int q3), (5, .int q3), (0, .ref a_this), (1, .int y1)]) hx hb dX0_closestTo_56 hl (k := 5) rfl rfl (by decide) rfl (fun ls hl => ?_)
        refine lv_goto (tgt := 8) hx hb dX0_closestTo_59 (by decide) ?_
        exact ih (v_row y4.toNatClampNeg) q3 (y4 + (1 : Int32)) _ _ _ _ hf K hP hD hS (lv_sub hl [4, 5, 1, 2, 0] rfl)
      · have hf := ob_neg c4 hf
        refine lv_iload hx hb dX0_closestTo_39 (lv_at hl 0 rfl) ?_
        refine lv_iload_n hx hb dX0_closestTo_41 rfl (lv_at hl 4 rfl) ?_
        refine lv_icmp_ge (tgt := 56) hx hb dX0_closestTo_42 (by decide) (fun c6 => ?_) (fun c6 => ?_)
        · have hf := ob_pos c6 hf
          refine lv_iinc (v := (y4 + (1 : Int32))) (lv' := [(4, .int (y4 + (1 : Int32))), (5, .int q3), (0, .ref a_this), (1, .int y1), (2, .int y2), (3, .int y3)]) hx hb dX0_closestTo_56 hl (k := 5) rfl rfl (by decide) rfl (fun ls hl => ?_)
          refine lv_goto (tgt := 8) hx hb dX0_closestTo_59 (by decide) ?_
          exact ih y2 y3 (y4 + (1 : Int32)) _ _ _ _ hf K hP hD hS (lv_sub hl [2, 3, 4, 5, 0] rfl)
        · have hf := ob_neg c6 hf
          refine lv_iload hx hb dX0_closestTo_45 (lv_at hl 0 rfl) ?_
          refine lv_istore_n (lv' := [(3, .int q3), (5, .int q3), (0, .ref a_this), (1, .int y1), (2, .int y2), (4, .int y4)]) hx hb dX0_closestTo_47 rfl hl (by decide) rfl (fun ls hl => ?_)
          refine lv_aload_n hx hb dX0_closestTo_48 rfl (lv_at hl 2 rfl) ?_
          refine va_get (D := D) (ci := 0) (v := .ref a_row) (C := RX0) (T := TX0) (N := 2) hx hb hts iX0 hown hK hP 0 rfl rfl 0 (by decide) fl9 (fun _ h9 => h9) rfl dX0_closestTo_49 ?_
          refine lv_iload hx hb dX0_closestTo_52 (lv_at hl 5 rfl) ?_
          obtain ⟨h7, hf⟩ := og_in hf
          refine va_iald hx hb hK hP 1 0 rfl rfl h7 dX0_closestTo_54 ?_
          refine lv_istore_n (lv' := [(2, .int (v_row y4.toNatClampNeg)), (3, .int q3), (5, .int q3), (0, .ref a_this), (1, .int y1), (4, .int y4)]) hx hb dX0_closestTo_55 rfl hl (by decide) rfl (fun ls hl => ?_)
          refine lv_iinc (v := (y4 + (1 : Int32))) (lv' := [(4, .int (y4 + (1 : Int32))), (2, .int (v_row y4.toNatClampNeg)), (3, .int q3), (5, .int q3), (0, .ref a_this), (1, .int y1)]) hx hb dX0_closestTo_56 hl (k := 5) rfl rfl (by decide) rfl (fun ls hl => ?_)
          refine lv_goto (tgt := 8) hx hb dX0_closestTo_59 (by decide) ?_
          exact ih (v_row y4.toNatClampNeg) q3 (y4 + (1 : Int32)) _ _ _ _ hf K hP hD hS (lv_sub hl [4, 5, 1, 2, 0] rfl)
set_option maxHeartbeats 4000000 in
set_option maxRecDepth 100000 in
theorem c_X0_closestTo (l : Launch) (D : va_G) (cyI cyJ cyZ : ClassId) (a_this a_row : Nat) (v_count : Int32) (v_row : Nat → Int32) (x1 : Int32) (q : Int32) (hf : f_X0_closestTo x1 v_count v_row = some q) : kMi l yX0_closestTo wsX0_closestTo rm_X0_closestTo D (kTy cyI cyJ cyZ) [.ref a_this, .int x1] (wd_X0_closestTo cyI cyJ cyZ a_this a_row v_count v_row) (wd_X0_closestTo cyI cyJ cyZ a_this a_row v_count v_row) q := by
  refine kMi_of (cc := cX0_closestTo) (nL := 6) (own := RX0) (by decide) rfl rfl (Nat.le_of_ble_eq_true rfl) ?_
  intro p e s m below meth c A Q ls C hret hP hD hS hl
  have hl : lv_has ls 6 [(0, .ref a_this), (1, .int x1)] := hl
  unfold f_X0_closestTo at hf
  obtain ⟨hx, hb, hml, hown, hts, hK, hA⟩ := id C
  refine lv_bipush (v := (-6 : Int32)) hx hb dX0_closestTo_0 (by decide) ?_
  refine lv_istore_n (lv' := [(2, .int (-6 : Int32)), (0, .ref a_this), (1, .int x1)]) hx hb dX0_closestTo_2 rfl hl (by decide) rfl (fun ls hl => ?_)
  refine lv_iconst (v := (0 : Int32)) hx hb dX0_closestTo_3 (by decide) ?_
  refine lv_istore_n (lv' := [(3, .int (0 : Int32)), (2, .int (-6 : Int32)), (0, .ref a_this), (1, .int x1)]) hx hb dX0_closestTo_4 rfl hl (by decide) rfl (fun ls hl => ?_)
  refine lv_iconst (v := (0 : Int32)) hx hb dX0_closestTo_5 (by decide) ?_
  refine lv_istore (lv' := [(4, .int (0 : Int32)), (3, .int (0 : Int32)), (2, .int (-6 : Int32)), (0, .ref a_this), (1, .int x1)]) hx hb dX0_closestTo_6 hl (by decide) rfl (fun ls hl => ?_)
  obtain ⟨q8, hq8, hf⟩ := ob_bind hf
  refine wl_X0_closestTo_8 C FU (-6 : Int32) (0 : Int32) (0 : Int32) _ _ _ _ hq8 (fun H locs ls hP hD hS hl => ?_) hP hD hS (lv_sub hl [3, 4, 2, 1, 0] rfl)
  refine lv_iload_n hx hb dX0_closestTo_62 rfl (lv_at hl 0 rfl) ?_
  obtain rfl := Option.some.inj hf
  exact hret _ _ _ _ dX0_closestTo_63 hP hD hS
